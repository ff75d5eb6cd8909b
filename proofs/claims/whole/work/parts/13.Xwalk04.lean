set_option maxRecDepth 100000 in
set_option maxHeartbeats 4000000 in
theorem zX_ValueBench_operand_w {Z : zx_Z} (C : zx_ok zX_sd Z cX10_operand 3 RX10 6 140) {r : Int32 × zx_S} (p1 p2 : Int32) (s : zx_S) (hr : zx_rI zX_sd Z cX10_operand 3 .int r.1 r.2) (h : zX_ValueBench_operand p1 p2 s = some r) : zW zX_sd Z 3 0 [(0, .ref (zz_d Z 0)), (1, .int p1), (2, .int p2)] [] s := by
  unfold zX_ValueBench_operand at h
  refine zr_aload_n C dX10_operand_0 (q := 1) rfl 0 rfl rfl ?_
  obtain ⟨s1, hc_1, h⟩ := zx_b1_so h
  refine zr_cvV (q := 4) C (As := []) (k := 0) (rest := []) dX10_operand_1 (zX_ValueBench_refresh_met C.2.2.2.2.1 C.2.2.2.1 hc_1) zX_vX10_104 zX_o0 ⟨by decide, by decide⟩ rfl (Nat.le_of_ble_eq_true rfl) rfl rfl ?_
  refine zr_aload_n C dX10_operand_4 (q := 5) rfl 0 rfl rfl ?_
  refine zr_get C dX10_operand_5 (q := 8) zX_gX10_26_0 rfl ?_
  refine zr_iload_n C dX10_operand_8 (q := 9) rfl 1 rfl rfl ?_
  refine zr_iload_n C dX10_operand_9 (q := 10) rfl 2 rfl rfl ?_
  obtain ⟨r2, hc_10, h⟩ := zx_b1_so h
  refine zr_cvI (q := 13) C (As := [.int p1, .int p2]) (k := 18) (rest := []) dX10_operand_10 (zX_Values_hasOperand_met C.2.2.2.2.1 C.2.2.2.1 hc_10) zX_vX10_172 zX_o18 ⟨by decide, by decide⟩ rfl (Nat.le_of_ble_eq_true rfl) rfl rfl ?_
  refine zr_if_eq (tgt := 41) (q := 16) C dX10_operand_13 h (by decide) rfl (fun h => ?_) (fun h => ?_)
  · skip
    refine zr_iconst C dX10_operand_41 (q := 42) (v := (-1 : Int32)) (by decide) rfl ?_
    exact zr_retI dX10_operand_42 h hr
  · skip
    refine zr_aload_n C dX10_operand_16 (q := 17) rfl 0 rfl rfl ?_
    refine zr_get C dX10_operand_17 (q := 20) zX_gX10_26_0 rfl ?_
    refine zr_get C dX10_operand_20 (q := 23) zX_gX10_175_18 rfl ?_
    refine zr_get C dX10_operand_23 (q := 26) zX_gX10_179_24 rfl ?_
    refine zr_aload_n C dX10_operand_26 (q := 27) rfl 0 rfl rfl ?_
    refine zr_get C dX10_operand_27 (q := 30) zX_gX10_26_0 rfl ?_
    refine zr_get C dX10_operand_30 (q := 33) zX_gX10_184_18 rfl ?_
    refine zr_iload_n C dX10_operand_33 (q := 34) rfl 1 rfl rfl ?_
    obtain ⟨hin_34, h⟩ := zx_ck_so h
    refine zr_iald C dX10_operand_34 (q := 35) zX_a23 hin_34 rfl ?_
    refine zr_iload_n C dX10_operand_35 (q := 36) rfl 2 rfl rfl ?_
    refine zr_iadd C dX10_operand_36 (q := 37) rfl ?_
    obtain ⟨hin_37, h⟩ := zx_ck_so h
    refine zr_iald C dX10_operand_37 (q := 38) zX_a25 hin_37 rfl ?_
    refine zr_goto (q := 42) C dX10_operand_38 (by decide) ?_
    exact zr_retI dX10_operand_42 h hr
theorem zX_ValueBench_operand_met {l : Launch} {D : va_G} {cz : ClassId × ClassId} {ad : Nat → Nat} (hS : zx_So zX_sd) (hi : zx_I zX_sd ad) {p1 p2 : Int32} {s : zx_S} {v : Int32} {s1 : zx_S} (h : zX_ValueBench_operand p1 p2 s = some (v, s1)) : zx_MI zX_sd l D cz ad yX10_operand cX10_operand 3 .int 6 140 [.ref (ad 0), .int p1, .int p2] s v s1 := zx_metI hS hi (by decide +kernel) rfl (Nat.le_of_ble_eq_true rfl) (fun Z e1 e2 e3 e4 C hr => by subst e1 e2 e3 e4; exact zX_ValueBench_operand_w (r := (v, s1)) C p1 p2 s hr h)
set_option maxRecDepth 100000 in
set_option maxHeartbeats 4000000 in
theorem zX_ValueBench_led_w {Z : zx_Z} (C : zx_ok zX_sd Z cX10_led 3 RX10 6 140) {r : Int32 × zx_S} (p1 p2 : Int32) (s : zx_S) (hr : zx_rI zX_sd Z cX10_led 3 .int r.1 r.2) (h : zX_ValueBench_led p1 p2 s = some r) : zW zX_sd Z 3 0 [(0, .ref (zz_d Z 0)), (1, .int p1), (2, .int p2)] [] s := by
  unfold zX_ValueBench_led at h
  refine zr_aload_n C dX10_led_0 (q := 1) rfl 0 rfl rfl ?_
  obtain ⟨s1, hc_1, h⟩ := zx_b1_so h
  refine zr_cvV (q := 4) C (As := []) (k := 0) (rest := []) dX10_led_1 (zX_ValueBench_refresh_met C.2.2.2.2.1 C.2.2.2.1 hc_1) zX_vX10_104 zX_o0 ⟨by decide, by decide⟩ rfl (Nat.le_of_ble_eq_true rfl) rfl rfl ?_
  refine zr_aload_n C dX10_led_4 (q := 5) rfl 0 rfl rfl ?_
  refine zr_get C dX10_led_5 (q := 8) zX_gX10_26_0 rfl ?_
  refine zr_iload_n C dX10_led_8 (q := 9) rfl 1 rfl rfl ?_
  refine zr_iload_n C dX10_led_9 (q := 10) rfl 2 rfl rfl ?_
  obtain ⟨r2, hc_10, h⟩ := zx_b1_so h
  refine zr_cvI (q := 13) C (As := [.int p1, .int p2]) (k := 18) (rest := []) dX10_led_10 (zX_Values_hasOperand_met C.2.2.2.2.1 C.2.2.2.1 hc_10) zX_vX10_172 zX_o18 ⟨by decide, by decide⟩ rfl (Nat.le_of_ble_eq_true rfl) rfl rfl ?_
  refine zr_if_eq (tgt := 28) (q := 16) C dX10_led_13 h (by decide) rfl (fun h => ?_) (fun h => ?_)
  · skip
    refine zr_iconst C dX10_led_28 (q := 29) (v := (-1 : Int32)) (by decide) rfl ?_
    exact zr_retI dX10_led_29 h hr
  · skip
    refine zr_aload_n C dX10_led_16 (q := 17) rfl 0 rfl rfl ?_
    refine zr_get C dX10_led_17 (q := 20) zX_gX10_40_0 rfl ?_
    refine zr_get C dX10_led_20 (q := 23) zX_gX10_162_36 rfl ?_
    refine zr_iload_n C dX10_led_23 (q := 24) rfl 1 rfl rfl ?_
    obtain ⟨hin_24, h⟩ := zx_ck_so h
    refine zr_zald C dX10_led_24 (q := 25) zX_a37 hin_24 rfl ?_
    refine zr_if_eq (tgt := 30) (q := 28) C dX10_led_25 h (by decide) rfl (fun h => ?_) (fun h => ?_)
    · skip
      refine zr_aload_n C dX10_led_30 (q := 31) rfl 0 rfl rfl ?_
      refine zr_get C dX10_led_31 (q := 34) zX_gX10_40_0 rfl ?_
      refine zr_get C dX10_led_34 (q := 37) zX_gX10_187_36 rfl ?_
      refine zr_get C dX10_led_37 (q := 40) zX_gX10_179_38 rfl ?_
      refine zr_aload_n C dX10_led_40 (q := 41) rfl 0 rfl rfl ?_
      refine zr_get C dX10_led_41 (q := 44) zX_gX10_26_0 rfl ?_
      refine zr_get C dX10_led_44 (q := 47) zX_gX10_184_18 rfl ?_
      refine zr_iload_n C dX10_led_47 (q := 48) rfl 1 rfl rfl ?_
      obtain ⟨hin_48, h⟩ := zx_ck_so h
      refine zr_iald C dX10_led_48 (q := 49) zX_a23 hin_48 rfl ?_
      refine zr_iload_n C dX10_led_49 (q := 50) rfl 2 rfl rfl ?_
      refine zr_iadd C dX10_led_50 (q := 51) rfl ?_
      obtain ⟨hin_51, h⟩ := zx_ck_so h
      refine zr_iald C dX10_led_51 (q := 52) zX_a39 hin_51 rfl ?_
      exact zr_retI dX10_led_52 h hr
    · skip
      refine zr_iconst C dX10_led_28 (q := 29) (v := (-1 : Int32)) (by decide) rfl ?_
      exact zr_retI dX10_led_29 h hr
theorem zX_ValueBench_led_met {l : Launch} {D : va_G} {cz : ClassId × ClassId} {ad : Nat → Nat} (hS : zx_So zX_sd) (hi : zx_I zX_sd ad) {p1 p2 : Int32} {s : zx_S} {v : Int32} {s1 : zx_S} (h : zX_ValueBench_led p1 p2 s = some (v, s1)) : zx_MI zX_sd l D cz ad yX10_led cX10_led 3 .int 6 140 [.ref (ad 0), .int p1, .int p2] s v s1 := zx_metI hS hi (by decide +kernel) rfl (Nat.le_of_ble_eq_true rfl) (fun Z e1 e2 e3 e4 C hr => by subst e1 e2 e3 e4; exact zX_ValueBench_led_w (r := (v, s1)) C p1 p2 s hr h)
set_option maxRecDepth 100000 in
set_option maxHeartbeats 4000000 in
theorem zX_ValueBench_classOf_w {Z : zx_Z} (C : zx_ok zX_sd Z cX10_classOf 2 RX10 6 140) {r : Int32 × zx_S} (p1 : Int32) (s : zx_S) (hr : zx_rI zX_sd Z cX10_classOf 2 .int r.1 r.2) (h : zX_ValueBench_classOf p1 s = some r) : zW zX_sd Z 2 0 [(0, .ref (zz_d Z 0)), (1, .int p1)] [] s := by
  unfold zX_ValueBench_classOf at h
  refine zr_aload_n C dX10_classOf_0 (q := 1) rfl 0 rfl rfl ?_
  obtain ⟨s1, hc_1, h⟩ := zx_b1_so h
  refine zr_cvV (q := 4) C (As := []) (k := 0) (rest := []) dX10_classOf_1 (zX_ValueBench_refresh_met C.2.2.2.2.1 C.2.2.2.1 hc_1) zX_vX10_104 zX_o0 ⟨by decide, by decide⟩ rfl (Nat.le_of_ble_eq_true rfl) rfl rfl ?_
  refine zr_aload_n C dX10_classOf_4 (q := 5) rfl 0 rfl rfl ?_
  refine zr_get C dX10_classOf_5 (q := 8) zX_gX10_26_0 rfl ?_
  refine zr_iload_n C dX10_classOf_8 (q := 9) rfl 1 rfl rfl ?_
  obtain ⟨r2, hc_9, h⟩ := zx_b1_so h
  refine zr_cvI (q := 12) C (As := [.int p1]) (k := 18) (rest := []) dX10_classOf_9 (zX_Values_has_met C.2.2.2.2.1 C.2.2.2.1 hc_9) zX_vX10_149 zX_o18 ⟨by decide, by decide⟩ rfl (Nat.le_of_ble_eq_true rfl) rfl rfl ?_
  refine zr_if_eq (tgt := 27) (q := 15) C dX10_classOf_12 h (by decide) rfl (fun h => ?_) (fun h => ?_)
  · skip
    refine zr_iconst C dX10_classOf_27 (q := 28) (v := (-1 : Int32)) (by decide) rfl ?_
    exact zr_retI dX10_classOf_28 h hr
  · skip
    refine zr_aload_n C dX10_classOf_15 (q := 16) rfl 0 rfl rfl ?_
    refine zr_get C dX10_classOf_16 (q := 19) zX_gX10_33_0 rfl ?_
    refine zr_get C dX10_classOf_19 (q := 22) zX_gX10_159_33 rfl ?_
    refine zr_iload_n C dX10_classOf_22 (q := 23) rfl 1 rfl rfl ?_
    obtain ⟨hin_23, h⟩ := zx_ck_so h
    refine zr_iald C dX10_classOf_23 (q := 24) zX_a34 hin_23 rfl ?_
    refine zr_goto (q := 28) C dX10_classOf_24 (by decide) ?_
    exact zr_retI dX10_classOf_28 h hr
theorem zX_ValueBench_classOf_met {l : Launch} {D : va_G} {cz : ClassId × ClassId} {ad : Nat → Nat} (hS : zx_So zX_sd) (hi : zx_I zX_sd ad) {p1 : Int32} {s : zx_S} {v : Int32} {s1 : zx_S} (h : zX_ValueBench_classOf p1 s = some (v, s1)) : zx_MI zX_sd l D cz ad yX10_classOf cX10_classOf 2 .int 6 140 [.ref (ad 0), .int p1] s v s1 := zx_metI hS hi (by decide +kernel) rfl (Nat.le_of_ble_eq_true rfl) (fun Z e1 e2 e3 e4 C hr => by subst e1 e2 e3 e4; exact zX_ValueBench_classOf_w (r := (v, s1)) C p1 s hr h)
set_option maxRecDepth 100000 in
set_option maxHeartbeats 4000000 in
theorem zX_ValueBench_read_w {Z : zx_Z} (C : zx_ok zX_sd Z cX10_read 3 RX10 6 140) {r : Int32 × zx_S} (p1 p2 : Int32) (s : zx_S) (hr : zx_rI zX_sd Z cX10_read 3 .int r.1 r.2) (h : zX_ValueBench_read p1 p2 s = some r) : zW zX_sd Z 3 0 [(0, .ref (zz_d Z 0)), (1, .int p1), (2, .int p2)] [] s := by
  unfold zX_ValueBench_read at h
  refine zr_aload_n C dX10_read_0 (q := 1) rfl 0 rfl rfl ?_
  obtain ⟨s1, hc_1, h⟩ := zx_b1_so h
  refine zr_cvV (q := 4) C (As := []) (k := 0) (rest := []) dX10_read_1 (zX_ValueBench_refresh_met C.2.2.2.2.1 C.2.2.2.1 hc_1) zX_vX10_104 zX_o0 ⟨by decide, by decide⟩ rfl (Nat.le_of_ble_eq_true rfl) rfl rfl ?_
  refine zr_aload_n C dX10_read_4 (q := 5) rfl 0 rfl rfl ?_
  refine zr_get C dX10_read_5 (q := 8) zX_gX10_19_0 rfl ?_
  refine zr_iload_n C dX10_read_8 (q := 9) rfl 1 rfl rfl ?_
  obtain ⟨r2, hc_9, h⟩ := zx_b1_so h
  refine zr_cvI (q := 12) C (As := [.int p1]) (k := 11) (rest := []) dX10_read_9 (zX_Graph_reaches_met C.2.2.2.2.1 C.2.2.2.1 hc_9) zX_vX10_107 zX_o11 ⟨by decide, by decide⟩ rfl (Nat.le_of_ble_eq_true rfl) rfl rfl ?_
  refine zr_if_eq (tgt := 28) (q := 15) C dX10_read_12 h (by decide) rfl (fun h => ?_) (fun h => ?_)
  · skip
    refine zr_iconst C dX10_read_28 (q := 29) (v := (-1 : Int32)) (by decide) rfl ?_
    exact zr_retI dX10_read_29 h hr
  · skip
    refine zr_aload_n C dX10_read_15 (q := 16) rfl 0 rfl rfl ?_
    refine zr_iload_n C dX10_read_16 (q := 17) rfl 2 rfl rfl ?_
    by_cases hcc : p2 = (0 : Int32)
    · rw [if_pos hcc] at h
      refine zr_cvA (q := 20) C (As := [.int p2]) (k := 0) (v := 24) (rest := []) dX10_read_17 (zX_readsOf_r24 C.2.2.2.2.1 C.2.2.2.1 hcc) zX_vX10_188 zX_o0 ⟨by decide, by decide⟩ rfl (Nat.le_of_ble_eq_true rfl) rfl rfl ?_
      refine zr_get C dX10_read_20 (q := 23) zX_gX10_192_24 rfl ?_
      refine zr_iload_n C dX10_read_23 (q := 24) rfl 1 rfl rfl ?_
      obtain ⟨hin_24, h⟩ := zx_ck_so h
      refine zr_iald C dX10_read_24 (q := 25) zX_a27 hin_24 rfl ?_
      refine zr_goto (q := 29) C dX10_read_25 (by decide) ?_
      exact zr_retI dX10_read_29 h hr
    · rw [if_neg hcc] at h
      refine zr_cvA (q := 20) C (As := [.int p2]) (k := 0) (v := 38) (rest := []) dX10_read_17 (zX_readsOf_r38 C.2.2.2.2.1 C.2.2.2.1 hcc) zX_vX10_188 zX_o0 ⟨by decide, by decide⟩ rfl (Nat.le_of_ble_eq_true rfl) rfl rfl ?_
      refine zr_get C dX10_read_20 (q := 23) zX_gX10_192_38 rfl ?_
      refine zr_iload_n C dX10_read_23 (q := 24) rfl 1 rfl rfl ?_
      obtain ⟨hin_24, h⟩ := zx_ck_so h
      refine zr_iald C dX10_read_24 (q := 25) zX_a41 hin_24 rfl ?_
      refine zr_goto (q := 29) C dX10_read_25 (by decide) ?_
      exact zr_retI dX10_read_29 h hr
theorem zX_ValueBench_read_met {l : Launch} {D : va_G} {cz : ClassId × ClassId} {ad : Nat → Nat} (hS : zx_So zX_sd) (hi : zx_I zX_sd ad) {p1 p2 : Int32} {s : zx_S} {v : Int32} {s1 : zx_S} (h : zX_ValueBench_read p1 p2 s = some (v, s1)) : zx_MI zX_sd l D cz ad yX10_read cX10_read 3 .int 6 140 [.ref (ad 0), .int p1, .int p2] s v s1 := zx_metI hS hi (by decide +kernel) rfl (Nat.le_of_ble_eq_true rfl) (fun Z e1 e2 e3 e4 C hr => by subst e1 e2 e3 e4; exact zX_ValueBench_read_w (r := (v, s1)) C p1 p2 s hr h)
set_option maxRecDepth 100000 in
set_option maxHeartbeats 4000000 in
theorem zX_Program_nthEmit_L10_w {Z : zx_Z} (C : zx_ok zX_sd Z cX5_nthEmit 5 RX5 0 0) {r : Int32} (v1 v2 : Int32) (s : zx_S) {k40 : Int32 → Option Int32} (hr : zx_rI zX_sd Z cX5_nthEmit 5 .int r s) (h40 : ∀ (a0 : Int32), k40 a0 = some r → zW zX_sd Z 5 40 [(4, .int a0)] [] s) : ∀ (n : Nat) (v3 : Int32) (v4 : Int32), zX_Program_nthEmit_L10 v1 v2 s k40 n v3 v4 = some r → zW zX_sd Z 5 10 [(0, .ref (zz_d Z 1)), (1, .int v1), (2, .int v2), (3, .int v3), (4, .int v4)] [] s := by
  intro n
  induction n with
  | zero => intro v3 v4 h; unfold zX_Program_nthEmit_L10 at h; cases h
  | succ n ih =>
    intro v3 v4 h
    unfold zX_Program_nthEmit_L10 at h
    refine zr_iload C dX5_nthEmit_10 (q := 12) 4 rfl rfl ?_
    refine zr_aload_n C dX5_nthEmit_12 (q := 13) rfl 0 rfl rfl ?_
    refine zr_get C dX5_nthEmit_13 (q := 16) zX_gX5_9_1 rfl ?_
    refine zr_iload_n C dX5_nthEmit_16 (q := 17) rfl 1 rfl rfl ?_
    refine zr_iconst C dX5_nthEmit_17 (q := 18) (v := (1 : Int32)) (by decide) rfl ?_
    refine zr_iadd C dX5_nthEmit_18 (q := 19) rfl ?_
    obtain ⟨hin_19, h⟩ := zx_ck_so h
    refine zr_iald C dX5_nthEmit_19 (q := 20) zX_a2 hin_19 rfl ?_
    refine zr_icmp_ge (tgt := 52) (q := 23) C dX5_nthEmit_20 h (by decide) rfl (fun h => ?_) (fun h => ?_)
    · skip
      refine zr_iconst C dX5_nthEmit_52 (q := 53) (v := (-1 : Int32)) (by decide) rfl ?_
      exact zr_retR dX5_nthEmit_53 h hr
    · skip
      refine zr_aload_n C dX5_nthEmit_23 (q := 24) rfl 0 rfl rfl ?_
      refine zr_get C dX5_nthEmit_24 (q := 27) zX_gX5_15_1 rfl ?_
      refine zr_iload C dX5_nthEmit_27 (q := 29) 4 rfl rfl ?_
      obtain ⟨hin_29, h⟩ := zx_ck_so h
      refine zr_iald C dX5_nthEmit_29 (q := 30) zX_a3 hin_29 rfl ?_
      refine zr_bipush C dX5_nthEmit_30 (q := 32) (v := (14 : Int32)) (by decide) rfl ?_
      refine zr_icmp_ne (tgt := 46) (q := 35) C dX5_nthEmit_32 h (by decide) rfl (fun h => ?_) (fun h => ?_)
      · skip
        refine zr_iinc C dX5_nthEmit_46 (q := 49) h (by decide) 4 rfl (by decide) (lw := fun v4_4 => [(4, .int v4_4), (0, .ref (zz_d Z 1)), (1, .int v1), (2, .int v2), (3, .int v3)]) (fun _ => rfl) rfl (fun v4_4 h => ?_)
        refine zr_goto (q := 10) C dX5_nthEmit_49 (by decide) ?_
        exact zr_sub [1, 2, 3, 4, 0] rfl (ih v3 v4_4 h)
      · skip
        refine zr_iload_n C dX5_nthEmit_35 (q := 36) rfl 3 rfl rfl ?_
        refine zr_iload_n C dX5_nthEmit_36 (q := 37) rfl 2 rfl rfl ?_
        refine zr_icmp_ne (tgt := 43) (q := 40) C dX5_nthEmit_37 h (by decide) rfl (fun h => ?_) (fun h => ?_)
        · skip
          refine zr_iinc C dX5_nthEmit_43 (q := 46) h (by decide) 3 rfl (by decide) (lw := fun v3_2 => [(3, .int v3_2), (0, .ref (zz_d Z 1)), (1, .int v1), (2, .int v2), (4, .int v4)]) (fun _ => rfl) rfl (fun v3_2 h => ?_)
          refine zr_iinc C dX5_nthEmit_46 (q := 49) h (by decide) 4 rfl (by decide) (lw := fun v4_3 => [(4, .int v4_3), (3, .int v3_2), (0, .ref (zz_d Z 1)), (1, .int v1), (2, .int v2)]) (fun _ => rfl) rfl (fun v4_3 h => ?_)
          refine zr_goto (q := 10) C dX5_nthEmit_49 (by decide) ?_
          exact zr_sub [2, 3, 4, 1, 0] rfl (ih v3_2 v4_3 h)
        · skip
          exact zr_sub [4] rfl (h40 v4 h)
set_option maxRecDepth 100000 in
set_option maxHeartbeats 4000000 in
theorem zX_Program_nthEmit_w {Z : zx_Z} (C : zx_ok zX_sd Z cX5_nthEmit 5 RX5 0 0) {r : Int32} (p1 p2 : Int32) (s : zx_S) (hr : zx_rI zX_sd Z cX5_nthEmit 5 .int r s) (h : zX_Program_nthEmit p1 p2 s = some r) : zW zX_sd Z 5 0 [(0, .ref (zz_d Z 1)), (1, .int p1), (2, .int p2)] [] s := by
  unfold zX_Program_nthEmit at h
  refine zr_iconst C dX5_nthEmit_0 (q := 1) (v := (0 : Int32)) (by decide) rfl ?_
  refine zr_istore_n C dX5_nthEmit_1 (q := 2) rfl (by decide) (lv' := [(3, .int (0 : Int32)), (0, .ref (zz_d Z 1)), (1, .int p1), (2, .int p2)]) rfl rfl ?_
  refine zr_aload_n C dX5_nthEmit_2 (q := 3) rfl 1 rfl rfl ?_
  refine zr_get C dX5_nthEmit_3 (q := 6) zX_gX5_9_1 rfl ?_
  refine zr_iload_n C dX5_nthEmit_6 (q := 7) rfl 2 rfl rfl ?_
  obtain ⟨hin_7, h⟩ := zx_ck_so h
  refine zr_iald C dX5_nthEmit_7 (q := 8) zX_a2 hin_7 rfl ?_
  refine zr_top h (fun v4_1 h => ?_)
  refine zr_istore C dX5_nthEmit_8 (q := 10) (by decide) (lv' := [(4, .int v4_1), (3, .int (0 : Int32)), (0, .ref (zz_d Z 1)), (1, .int p1), (2, .int p2)]) rfl rfl ?_
  refine zr_sub [2, 3, 4, 1, 0] rfl (zX_Program_nthEmit_L10_w C p1 p2 s hr (fun v4_5 h => ?_) 10000 (0 : Int32) v4_1 h)
  · skip
    refine zr_iload C dX5_nthEmit_40 (q := 42) 0 rfl rfl ?_
    exact zr_retR dX5_nthEmit_42 h hr
theorem zX_Program_nthEmit_met {l : Launch} {D : va_G} {cz : ClassId × ClassId} {ad : Nat → Nat} (hS : zx_So zX_sd) (hi : zx_I zX_sd ad) {p1 p2 : Int32} {s : zx_S} {v : Int32} (h : zX_Program_nthEmit p1 p2 s = some v) : zx_MI zX_sd l D cz ad yX5_nthEmit cX5_nthEmit 5 .int 0 0 [.ref (ad 1), .int p1, .int p2] s v s := zx_metI hS hi (by decide +kernel) rfl (Nat.le_of_ble_eq_true rfl) (fun Z e1 e2 e3 e4 C hr => by subst e1 e2 e3 e4; exact zX_Program_nthEmit_w C p1 p2 s hr h)
set_option maxRecDepth 100000 in
set_option maxHeartbeats 4000000 in
theorem zX_ValueBench_emits_w {Z : zx_Z} (C : zx_ok zX_sd Z cX10_emits 5 RX10 6 140) {r : Int32 × zx_S} (p1 p2 p3 : Int32) (s : zx_S) (hr : zx_rI zX_sd Z cX10_emits 5 .int r.1 r.2) (h : zX_ValueBench_emits p1 p2 p3 s = some r) : zW zX_sd Z 5 0 [(0, .ref (zz_d Z 0)), (1, .int p1), (2, .int p2), (3, .int p3)] [] s := by
  unfold zX_ValueBench_emits at h
  refine zr_aload_n C dX10_emits_0 (q := 1) rfl 0 rfl rfl ?_
  obtain ⟨s1, hc_1, h⟩ := zx_b1_so h
  refine zr_cvV (q := 4) C (As := []) (k := 0) (rest := []) dX10_emits_1 (zX_ValueBench_refresh_met C.2.2.2.2.1 C.2.2.2.1 hc_1) zX_vX10_104 zX_o0 ⟨by decide, by decide⟩ rfl (Nat.le_of_ble_eq_true rfl) rfl rfl ?_
  refine zr_aload_n C dX10_emits_4 (q := 5) rfl 0 rfl rfl ?_
  refine zr_get C dX10_emits_5 (q := 8) zX_gX10_19_0 rfl ?_
  refine zr_iload_n C dX10_emits_8 (q := 9) rfl 1 rfl rfl ?_
  obtain ⟨r2, hc_9, h⟩ := zx_b1_so h
  refine zr_cvI (q := 12) C (As := [.int p1]) (k := 11) (rest := []) dX10_emits_9 (zX_Graph_reaches_met C.2.2.2.2.1 C.2.2.2.1 hc_9) zX_vX10_107 zX_o11 ⟨by decide, by decide⟩ rfl (Nat.le_of_ble_eq_true rfl) rfl rfl ?_
  refine zr_if_ne (tgt := 17) (q := 15) C dX10_emits_12 h (by decide) rfl (fun h => ?_) (fun h => ?_)
  · skip
    refine zr_aload_n C dX10_emits_17 (q := 18) rfl 0 rfl rfl ?_
    refine zr_get C dX10_emits_18 (q := 21) zX_gX10_12_0 rfl ?_
    refine zr_iload_n C dX10_emits_21 (q := 22) rfl 1 rfl rfl ?_
    refine zr_iload_n C dX10_emits_22 (q := 23) rfl 2 rfl rfl ?_
    obtain ⟨r3, hc_23, h⟩ := zx_b1_so h
    refine zr_cvI (q := 26) C (As := [.int p1, .int p2]) (k := 1) (rest := []) dX10_emits_23 (zX_Program_nthEmit_met C.2.2.2.2.1 C.2.2.2.1 hc_23) zX_vX10_195 zX_o1 ⟨by decide, by decide⟩ rfl (Nat.le_of_ble_eq_true rfl) rfl rfl ?_
    refine zr_istore C dX10_emits_26 (q := 28) (by decide) (lv' := [(4, .int r3), (0, .ref (zz_d Z 0)), (1, .int p1), (2, .int p2), (3, .int p3)]) rfl rfl ?_
    refine zr_iload C dX10_emits_28 (q := 30) 0 rfl rfl ?_
    refine zr_iconst C dX10_emits_30 (q := 31) (v := (-1 : Int32)) (by decide) rfl ?_
    refine zr_icmp_ne (tgt := 38) (q := 34) C dX10_emits_31 h (by decide) rfl (fun h => ?_) (fun h => ?_)
    · skip
      refine zr_aload_n C dX10_emits_38 (q := 39) rfl 1 rfl rfl ?_
      refine zr_iload_n C dX10_emits_39 (q := 40) rfl 4 rfl rfl ?_
      by_cases hcc : p3 = (0 : Int32)
      · rw [if_pos hcc] at h
        refine zr_cvA (q := 43) C (As := [.int p3]) (k := 0) (v := 24) (rest := []) dX10_emits_40 (zX_readsOf_r24 C.2.2.2.2.1 C.2.2.2.1 hcc) zX_vX10_188 zX_o0 ⟨by decide, by decide⟩ rfl (Nat.le_of_ble_eq_true rfl) rfl rfl ?_
        refine zr_get C dX10_emits_43 (q := 46) zX_gX10_198_24 rfl ?_
        refine zr_iload C dX10_emits_46 (q := 48) 0 rfl rfl ?_
        obtain ⟨hin_48, h⟩ := zx_ck_so h
        refine zr_iald C dX10_emits_48 (q := 49) zX_a26 hin_48 rfl ?_
        exact zr_retI dX10_emits_49 h hr
      · rw [if_neg hcc] at h
        refine zr_cvA (q := 43) C (As := [.int p3]) (k := 0) (v := 38) (rest := []) dX10_emits_40 (zX_readsOf_r38 C.2.2.2.2.1 C.2.2.2.1 hcc) zX_vX10_188 zX_o0 ⟨by decide, by decide⟩ rfl (Nat.le_of_ble_eq_true rfl) rfl rfl ?_
        refine zr_get C dX10_emits_43 (q := 46) zX_gX10_198_38 rfl ?_
        refine zr_iload C dX10_emits_46 (q := 48) 0 rfl rfl ?_
        obtain ⟨hin_48, h⟩ := zx_ck_so h
        refine zr_iald C dX10_emits_48 (q := 49) zX_a40 hin_48 rfl ?_
        exact zr_retI dX10_emits_49 h hr
    · skip
      refine zr_iconst C dX10_emits_34 (q := 35) (v := (-1 : Int32)) (by decide) rfl ?_
      refine zr_goto (q := 49) C dX10_emits_35 (by decide) ?_
      exact zr_retI dX10_emits_49 h hr
  · skip
    refine zr_iconst C dX10_emits_15 (q := 16) (v := (-1 : Int32)) (by decide) rfl ?_
    exact zr_retI dX10_emits_16 h hr
theorem zX_ValueBench_emits_met {l : Launch} {D : va_G} {cz : ClassId × ClassId} {ad : Nat → Nat} (hS : zx_So zX_sd) (hi : zx_I zX_sd ad) {p1 p2 p3 : Int32} {s : zx_S} {v : Int32} {s1 : zx_S} (h : zX_ValueBench_emits p1 p2 p3 s = some (v, s1)) : zx_MI zX_sd l D cz ad yX10_emits cX10_emits 5 .int 6 140 [.ref (ad 0), .int p1, .int p2, .int p3] s v s1 := zx_metI hS hi (by decide +kernel) rfl (Nat.le_of_ble_eq_true rfl) (fun Z e1 e2 e3 e4 C hr => by subst e1 e2 e3 e4; exact zX_ValueBench_emits_w (r := (v, s1)) C p1 p2 p3 s hr h)
set_option maxRecDepth 100000 in
set_option maxHeartbeats 4000000 in
theorem zX_Machine_takeInputs_w {Z : zx_Z} (C : zx_ok zX_sd Z cX4_takeInputs 5 RX4 0 0) {r : zx_S} (p1 p2 p3 p4 : Int32) (s : zx_S) (hr : zx_rV zX_sd Z cX4_takeInputs 5 r) (h : zX_Machine_takeInputs p1 p2 p3 p4 s = some r) : zW zX_sd Z 5 0 [(0, .ref (zz_d Z 50)), (1, .int p1), (2, .int p2), (3, .int p3), (4, .int p4)] [] s := by
  unfold zX_Machine_takeInputs at h
  refine zr_aload_n C dX4_takeInputs_0 (q := 1) rfl 0 rfl rfl ?_
  refine zr_get C dX4_takeInputs_1 (q := 4) zX_gX4_9_50 rfl ?_
  refine zr_iconst C dX4_takeInputs_4 (q := 5) (v := (0 : Int32)) (by decide) rfl ?_
  refine zr_iload_n C dX4_takeInputs_5 (q := 6) rfl 1 rfl rfl ?_
  obtain ⟨hin_6, h⟩ := zx_ck_so h
  refine zr_iast C dX4_takeInputs_6 (q := 7) zX_a51 hin_6 rfl ?_
  refine zr_ls h (fun s1 h => ?_)
  refine zr_aload_n C dX4_takeInputs_7 (q := 8) rfl 0 rfl rfl ?_
  refine zr_get C dX4_takeInputs_8 (q := 11) zX_gX4_9_50 rfl ?_
  refine zr_iconst C dX4_takeInputs_11 (q := 12) (v := (1 : Int32)) (by decide) rfl ?_
  refine zr_iload_n C dX4_takeInputs_12 (q := 13) rfl 2 rfl rfl ?_
  obtain ⟨hin_13, h⟩ := zx_ck_so h
  refine zr_iast C dX4_takeInputs_13 (q := 14) zX_a51 hin_13 rfl ?_
  refine zr_ls h (fun s2 h => ?_)
  refine zr_aload_n C dX4_takeInputs_14 (q := 15) rfl 0 rfl rfl ?_
  refine zr_get C dX4_takeInputs_15 (q := 18) zX_gX4_9_50 rfl ?_
  refine zr_iconst C dX4_takeInputs_18 (q := 19) (v := (2 : Int32)) (by decide) rfl ?_
  refine zr_iload_n C dX4_takeInputs_19 (q := 20) rfl 3 rfl rfl ?_
  obtain ⟨hin_20, h⟩ := zx_ck_so h
  refine zr_iast C dX4_takeInputs_20 (q := 21) zX_a51 hin_20 rfl ?_
  refine zr_ls h (fun s3 h => ?_)
  refine zr_aload_n C dX4_takeInputs_21 (q := 22) rfl 0 rfl rfl ?_
  refine zr_get C dX4_takeInputs_22 (q := 25) zX_gX4_9_50 rfl ?_
  refine zr_iconst C dX4_takeInputs_25 (q := 26) (v := (3 : Int32)) (by decide) rfl ?_
  refine zr_iload C dX4_takeInputs_26 (q := 28) 4 rfl rfl ?_
  obtain ⟨hin_28, h⟩ := zx_ck_so h
  refine zr_iast C dX4_takeInputs_28 (q := 29) zX_a51 hin_28 rfl ?_
  refine zr_ls h (fun s4 h => ?_)
  exact zr_retV dX4_takeInputs_29 h hr
theorem zX_Machine_takeInputs_met {l : Launch} {D : va_G} {cz : ClassId × ClassId} {ad : Nat → Nat} (hS : zx_So zX_sd) (hi : zx_I zX_sd ad) {p1 p2 p3 p4 : Int32} {s : zx_S} {s1 : zx_S} (h : zX_Machine_takeInputs p1 p2 p3 p4 s = some s1) : zx_MV zX_sd l D cz ad yX4_takeInputs cX4_takeInputs 5 0 0 [.ref (ad 50), .int p1, .int p2, .int p3, .int p4] s s1 := zx_metV hS hi (by decide +kernel) rfl (Nat.le_of_ble_eq_true rfl) (fun Z e1 e2 e3 e4 C hr => by subst e1 e2 e3 e4; exact zX_Machine_takeInputs_w C p1 p2 p3 p4 s hr h)
set_option maxRecDepth 100000 in
set_option maxHeartbeats 4000000 in
theorem zX_Arrays_fill_6_L5_w {Z : zx_Z} (C : zx_ok zX_sd Z cJ7_fill_53178 4 RJ7 0 0) {r : zx_S} (v1 v3 : Int32) {k20 : zx_S → Option zx_S} (hr : zx_rV zX_sd Z cJ7_fill_53178 4 r) (h20 : ∀ (s1 : zx_S), k20 s1 = some r → zW zX_sd Z 4 20 [] [] s1) : ∀ (n : Nat) (v2 : Int32) (s : zx_S), zX_Arrays_fill_6_L5 v1 v3 k20 n v2 s = some r → zW zX_sd Z 4 5 [(0, .ref (zz_d Z 43)), (1, .int v1), (2, .int v2), (3, .int v3)] [] s := by
  intro n
  induction n with
  | zero => intro v2 s h; unfold zX_Arrays_fill_6_L5 at h; cases h
  | succ n ih =>
    intro v2 s h
    unfold zX_Arrays_fill_6_L5 at h
    refine zr_iload_n C dJ7_fill_53178_5 (q := 6) rfl 2 rfl rfl ?_
    refine zr_iload_n C dJ7_fill_53178_6 (q := 7) rfl 3 rfl rfl ?_
    refine zr_icmp_ge (tgt := 20) (q := 10) C dJ7_fill_53178_7 h (by decide) rfl (fun h => ?_) (fun h => ?_)
    · skip
      exact zr_sub [] rfl (h20 s h)
    · skip
      refine zr_aload_n C dJ7_fill_53178_10 (q := 11) rfl 0 rfl rfl ?_
      refine zr_iload_n C dJ7_fill_53178_11 (q := 12) rfl 2 rfl rfl ?_
      refine zr_iload_n C dJ7_fill_53178_12 (q := 13) rfl 1 rfl rfl ?_
      obtain ⟨hin_13, h⟩ := zx_ck_so h
      refine zr_iast C dJ7_fill_53178_13 (q := 14) zX_a43 hin_13 rfl ?_
      refine zr_ls h (fun s1 h => ?_)
      refine zr_iinc C dJ7_fill_53178_14 (q := 17) h (by decide) 2 rfl (by decide) (lw := fun v2_2 => [(2, .int v2_2), (0, .ref (zz_d Z 43)), (1, .int v1), (3, .int v3)]) (fun _ => rfl) rfl (fun v2_2 h => ?_)
      refine zr_goto (q := 5) C dJ7_fill_53178_17 (by decide) ?_
      exact zr_sub [1, 2, 0, 3] rfl (ih v2_2 s1 h)
set_option maxRecDepth 100000 in
set_option maxHeartbeats 4000000 in
theorem zX_Arrays_fill_6_w {Z : zx_Z} (C : zx_ok zX_sd Z cJ7_fill_53178 4 RJ7 0 0) {r : zx_S} (p1 : Int32) (s : zx_S) (hr : zx_rV zX_sd Z cJ7_fill_53178 4 r) (h : zX_Arrays_fill_6 p1 s = some r) : zW zX_sd Z 4 0 [(0, .ref (zz_d Z 43)), (1, .int p1)] [] s := by
  unfold zX_Arrays_fill_6 at h
  refine zr_iconst C dJ7_fill_53178_0 (q := 1) (v := (0 : Int32)) (by decide) rfl ?_
  refine zr_istore_n C dJ7_fill_53178_1 (q := 2) rfl (by decide) (lv' := [(2, .int (0 : Int32)), (0, .ref (zz_d Z 43)), (1, .int p1)]) rfl rfl ?_
  refine zr_aload_n C dJ7_fill_53178_2 (q := 3) rfl 1 rfl rfl ?_
  refine zr_alen C dJ7_fill_53178_3 (q := 4) (x := (10 : Int32)) zX_a43 (by decide) rfl ?_
  refine zr_istore_n C dJ7_fill_53178_4 (q := 5) rfl (by decide) (lv' := [(3, .int (10 : Int32)), (2, .int (0 : Int32)), (0, .ref (zz_d Z 43)), (1, .int p1)]) rfl rfl ?_
  refine zr_sub [2, 3, 1, 0] rfl (zX_Arrays_fill_6_L5_w C p1 (10 : Int32) hr (fun s3 h => ?_) 10000 (0 : Int32) s h)
  · skip
    exact zr_retV dJ7_fill_53178_20 h hr
theorem zX_Arrays_fill_6_met {l : Launch} {D : va_G} {cz : ClassId × ClassId} {ad : Nat → Nat} (hS : zx_So zX_sd) (hi : zx_I zX_sd ad) {p1 : Int32} {s : zx_S} {s1 : zx_S} (h : zX_Arrays_fill_6 p1 s = some s1) : zx_MV zX_sd l D cz ad yJ7_fill_53178 cJ7_fill_53178 4 0 0 [.ref (ad 43), .int p1] s s1 := zx_metV hS hi (by decide +kernel) rfl (Nat.le_of_ble_eq_true rfl) (fun Z e1 e2 e3 e4 C hr => by subst e1 e2 e3 e4; exact zX_Arrays_fill_6_w C p1 s hr h)
set_option maxRecDepth 100000 in
set_option maxHeartbeats 4000000 in
theorem zX_ToldForm_begin_w {Z : zx_Z} (C : zx_ok zX_sd Z cX7_begin 3 RX7 1 23) {r : zx_S} (p1 p2 : Int32) (s : zx_S) (hr : zx_rV zX_sd Z cX7_begin 3 r) (h : zX_ToldForm_begin p1 p2 s = some r) : zW zX_sd Z 3 0 [(0, .ref (zz_d Z 42)), (1, .int p1), (2, .int p2)] [] s := by
  unfold zX_ToldForm_begin at h
  refine zr_iload_n C dX7_begin_0 (q := 1) rfl 1 rfl rfl ?_
  refine zr_iconst C dX7_begin_1 (q := 2) (v := (-1 : Int32)) (by decide) rfl ?_
  refine zr_icmp_ne (tgt := 13) (q := 5) C dX7_begin_2 h (by decide) rfl (fun h => ?_) (fun h => ?_)
  · skip
    exact zr_retV dX7_begin_13 h hr
  · skip
    refine zr_aload_n C dX7_begin_5 (q := 6) rfl 0 rfl rfl ?_
    refine zr_get C dX7_begin_6 (q := 9) zX_gX7_15_42 rfl ?_
    refine zr_iconst C dX7_begin_9 (q := 10) (v := (0 : Int32)) (by decide) rfl ?_
    obtain ⟨s1, hc_10, h⟩ := zx_b1_so h
    refine zr_csV (q := 13) C (As := [.ref (zz_d Z 43), .int (0 : Int32)]) (rest := []) dX7_begin_10 (zX_Arrays_fill_6_met C.2.2.2.2.1 C.2.2.2.1 hc_10) zX_sX7_19 ⟨by decide, by decide⟩ rfl (Nat.le_of_ble_eq_true rfl) rfl rfl ?_
    exact zr_retV dX7_begin_13 h hr
theorem zX_ToldForm_begin_met {l : Launch} {D : va_G} {cz : ClassId × ClassId} {ad : Nat → Nat} (hS : zx_So zX_sd) (hi : zx_I zX_sd ad) {p1 p2 : Int32} {s : zx_S} {s1 : zx_S} (h : zX_ToldForm_begin p1 p2 s = some s1) : zx_MV zX_sd l D cz ad yX7_begin cX7_begin 3 1 23 [.ref (ad 42), .int p1, .int p2] s s1 := zx_metV hS hi (by decide +kernel) rfl (Nat.le_of_ble_eq_true rfl) (fun Z e1 e2 e3 e4 C hr => by subst e1 e2 e3 e4; exact zX_ToldForm_begin_w C p1 p2 s hr h)
set_option maxRecDepth 100000 in
set_option maxHeartbeats 4000000 in
theorem zX_ToldForm_keeps_w {Z : zx_Z} (C : zx_ok zX_sd Z cX7_keeps 2 RX7 0 0) {r : Int32} (p1 : Int32) (s : zx_S) (hr : zx_rI zX_sd Z cX7_keeps 2 .boolean r s) (h : zX_ToldForm_keeps p1 s = some r) : zW zX_sd Z 2 0 [(0, .ref (zz_d Z 42)), (1, .int p1)] [] s := by
  unfold zX_ToldForm_keeps at h
  refine zr_iconst C dX7_keeps_0 (q := 1) (v := (1 : Int32)) (by decide) rfl ?_
  exact zr_retZR dX7_keeps_1 (Or.inr rfl) h hr
theorem zX_ToldForm_keeps_met {l : Launch} {D : va_G} {cz : ClassId × ClassId} {ad : Nat → Nat} (hS : zx_So zX_sd) (hi : zx_I zX_sd ad) {p1 : Int32} {s : zx_S} {v : Int32} (h : zX_ToldForm_keeps p1 s = some v) : zx_MI zX_sd l D cz ad yX7_keeps cX7_keeps 2 .boolean 0 0 [.ref (ad 42), .int p1] s v s := zx_metI hS hi (by decide +kernel) rfl (Nat.le_of_ble_eq_true rfl) (fun Z e1 e2 e3 e4 C hr => by subst e1 e2 e3 e4; exact zX_ToldForm_keeps_w C p1 s hr h)
set_option maxRecDepth 100000 in
set_option maxHeartbeats 4000000 in
theorem zX_Machine_pay_w {Z : zx_Z} (C : zx_ok zX_sd Z cX4_pay 1 RX4 0 0) {r : Int32 × zx_S} (s : zx_S) (hr : zx_rI zX_sd Z cX4_pay 1 .boolean r.1 r.2) (h : zX_Machine_pay s = some r) : zW zX_sd Z 1 0 [(0, .ref (zz_d Z 50))] [] s := by
  unfold zX_Machine_pay at h
  refine zr_aload_n C dX4_pay_0 (q := 1) rfl 0 rfl rfl ?_
  refine zr_get C dX4_pay_1 (q := 4) zX_gX4_29_50 rfl ?_
  refine zr_aload_n C dX4_pay_4 (q := 5) rfl 0 rfl rfl ?_
  refine zr_get C dX4_pay_5 (q := 8) zX_gX4_18_50 rfl ?_
  refine zr_icmp_lt (tgt := 13) (q := 11) C dX4_pay_8 h (by decide) rfl (fun h => ?_) (fun h => ?_)
  · skip
    refine zr_aload_n C dX4_pay_13 (q := 14) rfl 0 rfl rfl ?_
    refine zr_dup C dX4_pay_14 (q := 15) rfl rfl ?_
    refine zr_get C dX4_pay_15 (q := 18) zX_gX4_29_50 rfl ?_
    refine zr_iconst C dX4_pay_18 (q := 19) (v := (1 : Int32)) (by decide) rfl ?_
    refine zr_iadd C dX4_pay_19 (q := 20) rfl ?_
    refine zr_top h (fun x1 h => ?_)
    refine zr_put C dX4_pay_20 (q := 23) zX_pX4_29_50 rfl rfl rfl ?_
    refine zr_ls h (fun s2 h => ?_)
    refine zr_iconst C dX4_pay_23 (q := 24) (v := (1 : Int32)) (by decide) rfl ?_
    exact zr_retZI dX4_pay_24 (Or.inr rfl) h hr
  · skip
    refine zr_iconst C dX4_pay_11 (q := 12) (v := (0 : Int32)) (by decide) rfl ?_
    exact zr_retZI dX4_pay_12 (Or.inl rfl) h hr
theorem zX_Machine_pay_met {l : Launch} {D : va_G} {cz : ClassId × ClassId} {ad : Nat → Nat} (hS : zx_So zX_sd) (hi : zx_I zX_sd ad) {s : zx_S} {v : Int32} {s1 : zx_S} (h : zX_Machine_pay s = some (v, s1)) : zx_MI zX_sd l D cz ad yX4_pay cX4_pay 1 .boolean 0 0 [.ref (ad 50)] s v s1 := zx_metI hS hi (by decide +kernel) rfl (Nat.le_of_ble_eq_true rfl) (fun Z e1 e2 e3 e4 C hr => by subst e1 e2 e3 e4; exact zX_Machine_pay_w (r := (v, s1)) C s hr h)
set_option maxRecDepth 100000 in
set_option maxHeartbeats 4000000 in
theorem zX_ToldForm_target_w {Z : zx_Z} (C : zx_ok zX_sd Z cX7_target 2 RX7 0 0) {r : Int32} (p1 : Int32) (s : zx_S) (hr : zx_rI zX_sd Z cX7_target 2 .int r s) (h : zX_ToldForm_target p1 s = some r) : zW zX_sd Z 2 0 [(0, .ref (zz_d Z 42)), (1, .int p1)] [] s := by
  unfold zX_ToldForm_target at h
  refine zr_aload_n C dX7_target_0 (q := 1) rfl 0 rfl rfl ?_
  refine zr_get C dX7_target_1 (q := 4) zX_gX7_9_42 rfl ?_
  refine zr_get C dX7_target_4 (q := 7) zX_gX7_25_1 rfl ?_
  refine zr_iload_n C dX7_target_7 (q := 8) rfl 1 rfl rfl ?_
  obtain ⟨hin_8, h⟩ := zx_ck_so h
  refine zr_iald C dX7_target_8 (q := 9) zX_a4 hin_8 rfl ?_
  exact zr_retR dX7_target_9 h hr
theorem zX_ToldForm_target_met {l : Launch} {D : va_G} {cz : ClassId × ClassId} {ad : Nat → Nat} (hS : zx_So zX_sd) (hi : zx_I zX_sd ad) {p1 : Int32} {s : zx_S} {v : Int32} (h : zX_ToldForm_target p1 s = some v) : zx_MI zX_sd l D cz ad yX7_target cX7_target 2 .int 0 0 [.ref (ad 42), .int p1] s v s := zx_metI hS hi (by decide +kernel) rfl (Nat.le_of_ble_eq_true rfl) (fun Z e1 e2 e3 e4 C hr => by subst e1 e2 e3 e4; exact zX_ToldForm_target_w C p1 s hr h)
set_option maxRecDepth 100000 in
set_option maxHeartbeats 4000000 in
theorem zX_ToldForm_left_w {Z : zx_Z} (C : zx_ok zX_sd Z cX7_left 2 RX7 0 0) {r : Int32} (p1 : Int32) (s : zx_S) (hr : zx_rI zX_sd Z cX7_left 2 .int r s) (h : zX_ToldForm_left p1 s = some r) : zW zX_sd Z 2 0 [(0, .ref (zz_d Z 42)), (1, .int p1)] [] s := by
  unfold zX_ToldForm_left at h
  refine zr_aload_n C dX7_left_0 (q := 1) rfl 0 rfl rfl ?_
  refine zr_get C dX7_left_1 (q := 4) zX_gX7_9_42 rfl ?_
  refine zr_get C dX7_left_4 (q := 7) zX_gX7_30_1 rfl ?_
  refine zr_iload_n C dX7_left_7 (q := 8) rfl 1 rfl rfl ?_
  obtain ⟨hin_8, h⟩ := zx_ck_so h
  refine zr_iald C dX7_left_8 (q := 9) zX_a5 hin_8 rfl ?_
  exact zr_retR dX7_left_9 h hr
theorem zX_ToldForm_left_met {l : Launch} {D : va_G} {cz : ClassId × ClassId} {ad : Nat → Nat} (hS : zx_So zX_sd) (hi : zx_I zX_sd ad) {p1 : Int32} {s : zx_S} {v : Int32} (h : zX_ToldForm_left p1 s = some v) : zx_MI zX_sd l D cz ad yX7_left cX7_left 2 .int 0 0 [.ref (ad 42), .int p1] s v s := zx_metI hS hi (by decide +kernel) rfl (Nat.le_of_ble_eq_true rfl) (fun Z e1 e2 e3 e4 C hr => by subst e1 e2 e3 e4; exact zX_ToldForm_left_w C p1 s hr h)
set_option maxRecDepth 100000 in
set_option maxHeartbeats 4000000 in
theorem zX_ToldForm_right_w {Z : zx_Z} (C : zx_ok zX_sd Z cX7_right 2 RX7 0 0) {r : Int32} (p1 : Int32) (s : zx_S) (hr : zx_rI zX_sd Z cX7_right 2 .int r s) (h : zX_ToldForm_right p1 s = some r) : zW zX_sd Z 2 0 [(0, .ref (zz_d Z 42)), (1, .int p1)] [] s := by
  unfold zX_ToldForm_right at h
  refine zr_aload_n C dX7_right_0 (q := 1) rfl 0 rfl rfl ?_
  refine zr_get C dX7_right_1 (q := 4) zX_gX7_9_42 rfl ?_
  refine zr_get C dX7_right_4 (q := 7) zX_gX7_33_1 rfl ?_
  refine zr_iload_n C dX7_right_7 (q := 8) rfl 1 rfl rfl ?_
  obtain ⟨hin_8, h⟩ := zx_ck_so h
  refine zr_iald C dX7_right_8 (q := 9) zX_a6 hin_8 rfl ?_
  exact zr_retR dX7_right_9 h hr
theorem zX_ToldForm_right_met {l : Launch} {D : va_G} {cz : ClassId × ClassId} {ad : Nat → Nat} (hS : zx_So zX_sd) (hi : zx_I zX_sd ad) {p1 : Int32} {s : zx_S} {v : Int32} (h : zX_ToldForm_right p1 s = some v) : zx_MI zX_sd l D cz ad yX7_right cX7_right 2 .int 0 0 [.ref (ad 42), .int p1] s v s := zx_metI hS hi (by decide +kernel) rfl (Nat.le_of_ble_eq_true rfl) (fun Z e1 e2 e3 e4 C hr => by subst e1 e2 e3 e4; exact zX_ToldForm_right_w C p1 s hr h)
set_option maxRecDepth 100000 in
set_option maxHeartbeats 4000000 in
theorem zX_Machine_divide_w {Z : zx_Z} (C : zx_ok zX_sd Z cX4_divide 2 RX4 0 0) {r : Int32} (p0 p1 : Int32) (s : zx_S) (hr : zx_rI zX_sd Z cX4_divide 2 .int r s) (h : zX_Machine_divide p0 p1 s = some r) : zW zX_sd Z 2 0 [(0, .int p0), (1, .int p1)] [] s := by
  unfold zX_Machine_divide at h
  refine zr_iload_n C dX4_divide_0 (q := 1) rfl 1 rfl rfl ?_
  refine zr_if_ne (tgt := 6) (q := 4) C dX4_divide_1 h (by decide) rfl (fun h => ?_) (fun h => ?_)
  · skip
    refine zr_iload_n C dX4_divide_6 (q := 7) rfl 1 rfl rfl ?_
    refine zr_iconst C dX4_divide_7 (q := 8) (v := (-1 : Int32)) (by decide) rfl ?_
    refine zr_icmp_ne (tgt := 16) (q := 11) C dX4_divide_8 h (by decide) rfl (fun h => ?_) (fun h => ?_)
    · skip
      refine zr_iload_n C dX4_divide_16 (q := 17) rfl 0 rfl rfl ?_
      refine zr_iload_n C dX4_divide_17 (q := 18) rfl 1 rfl rfl ?_
      obtain ⟨hne_18, h⟩ := zx_ne_so h
      refine zr_idiv C dX4_divide_18 (q := 19) hne_18 rfl ?_
      exact zr_retR dX4_divide_19 h hr
    · skip
      refine zr_iload_n C dX4_divide_11 (q := 12) rfl 0 rfl rfl ?_
      refine zr_ineg C dX4_divide_12 (q := 13) rfl ?_
      refine zr_goto (q := 19) C dX4_divide_13 (by decide) ?_
      exact zr_retR dX4_divide_19 h hr
  · skip
    refine zr_iconst C dX4_divide_4 (q := 5) (v := (0 : Int32)) (by decide) rfl ?_
    exact zr_retR dX4_divide_5 h hr
theorem zX_Machine_divide_met {l : Launch} {D : va_G} {cz : ClassId × ClassId} {ad : Nat → Nat} (hS : zx_So zX_sd) (hi : zx_I zX_sd ad) {p0 p1 : Int32} {s : zx_S} {v : Int32} (h : zX_Machine_divide p0 p1 s = some v) : zx_MI zX_sd l D cz ad yX4_divide cX4_divide 2 .int 0 0 [.int p0, .int p1] s v s := zx_metI hS hi (by decide +kernel) rfl (Nat.le_of_ble_eq_true rfl) (fun Z e1 e2 e3 e4 C hr => by subst e1 e2 e3 e4; exact zX_Machine_divide_w C p0 p1 s hr h)
set_option maxRecDepth 100000 in
set_option maxHeartbeats 4000000 in
theorem zX_Machine_compute_w {Z : zx_Z} (C : zx_ok zX_sd Z cX4_compute 3 RX4 1 21) {r : Int32} (p0 p1 p2 : Int32) (s : zx_S) (hr : zx_rI zX_sd Z cX4_compute 3 .int r s) (h : zX_Machine_compute p0 p1 p2 s = some r) : zW zX_sd Z 3 0 [(0, .int p0), (1, .int p1), (2, .int p2)] [] s := by
  unfold zX_Machine_compute at h
  refine zr_iload_n C dX4_compute_0 (q := 1) rfl 0 rfl rfl ?_
  by_cases e0 : p0 = (3 : Int32)
  · rw [if_pos e0] at h
    refine zr_tableIn (tgt := 60) (off := 59) C dX4_compute_1 (by rw [e0]; decide) (by rw [e0]; decide) (by rw [e0] <;> exact rfl) (by decide) ?_
    refine zr_iload_n C dX4_compute_60 (q := 61) rfl 1 rfl rfl ?_
    refine zr_iload_n C dX4_compute_61 (q := 62) rfl 2 rfl rfl ?_
    refine zr_iadd C dX4_compute_62 (q := 63) rfl ?_
    exact zr_retR dX4_compute_63 h hr
  · rw [if_neg e0] at h
    by_cases e1 : p0 = (4 : Int32)
    · rw [if_pos e1] at h
      refine zr_tableIn (tgt := 64) (off := 63) C dX4_compute_1 (by rw [e1]; decide) (by rw [e1]; decide) (by rw [e1] <;> exact rfl) (by decide) ?_
      refine zr_iload_n C dX4_compute_64 (q := 65) rfl 1 rfl rfl ?_
      refine zr_iload_n C dX4_compute_65 (q := 66) rfl 2 rfl rfl ?_
      refine zr_isub C dX4_compute_66 (q := 67) rfl ?_
      exact zr_retR dX4_compute_67 h hr
    · rw [if_neg e1] at h
      by_cases e2 : p0 = (5 : Int32)
      · rw [if_pos e2] at h
        refine zr_tableIn (tgt := 68) (off := 67) C dX4_compute_1 (by rw [e2]; decide) (by rw [e2]; decide) (by rw [e2] <;> exact rfl) (by decide) ?_
        refine zr_iload_n C dX4_compute_68 (q := 69) rfl 1 rfl rfl ?_
        refine zr_iload_n C dX4_compute_69 (q := 70) rfl 2 rfl rfl ?_
        refine zr_imul C dX4_compute_70 (q := 71) rfl ?_
        exact zr_retR dX4_compute_71 h hr
      · rw [if_neg e2] at h
        by_cases e3 : p0 = (6 : Int32)
        · rw [if_pos e3] at h
          refine zr_tableIn (tgt := 72) (off := 71) C dX4_compute_1 (by rw [e3]; decide) (by rw [e3]; decide) (by rw [e3] <;> exact rfl) (by decide) ?_
          refine zr_iload_n C dX4_compute_72 (q := 73) rfl 1 rfl rfl ?_
          refine zr_iload_n C dX4_compute_73 (q := 74) rfl 2 rfl rfl ?_
          refine zr_iand C dX4_compute_74 (q := 75) rfl ?_
          exact zr_retR dX4_compute_75 h hr
        · rw [if_neg e3] at h
          by_cases e4 : p0 = (7 : Int32)
          · rw [if_pos e4] at h
            refine zr_tableIn (tgt := 76) (off := 75) C dX4_compute_1 (by rw [e4]; decide) (by rw [e4]; decide) (by rw [e4] <;> exact rfl) (by decide) ?_
            refine zr_iload_n C dX4_compute_76 (q := 77) rfl 1 rfl rfl ?_
            refine zr_iload_n C dX4_compute_77 (q := 78) rfl 2 rfl rfl ?_
            refine zr_ior C dX4_compute_78 (q := 79) rfl ?_
            exact zr_retR dX4_compute_79 h hr
          · rw [if_neg e4] at h
            by_cases e5 : p0 = (8 : Int32)
            · rw [if_pos e5] at h
              refine zr_tableIn (tgt := 80) (off := 79) C dX4_compute_1 (by rw [e5]; decide) (by rw [e5]; decide) (by rw [e5] <;> exact rfl) (by decide) ?_
              refine zr_iload_n C dX4_compute_80 (q := 81) rfl 1 rfl rfl ?_
              refine zr_iload_n C dX4_compute_81 (q := 82) rfl 2 rfl rfl ?_
              refine zr_ixor C dX4_compute_82 (q := 83) rfl ?_
              exact zr_retR dX4_compute_83 h hr
            · rw [if_neg e5] at h
              by_cases e6 : p0 = (9 : Int32)
              · rw [if_pos e6] at h
                refine zr_tableIn (tgt := 84) (off := 83) C dX4_compute_1 (by rw [e6]; decide) (by rw [e6]; decide) (by rw [e6] <;> exact rfl) (by decide) ?_
                refine zr_iload_n C dX4_compute_84 (q := 85) rfl 1 rfl rfl ?_
                refine zr_iload_n C dX4_compute_85 (q := 86) rfl 2 rfl rfl ?_
                refine zr_icmp_ne (tgt := 93) (q := 89) C dX4_compute_86 h (by decide) rfl (fun h => ?_) (fun h => ?_)
                · skip
                  refine zr_iconst C dX4_compute_93 (q := 94) (v := (0 : Int32)) (by decide) rfl ?_
                  exact zr_retR dX4_compute_94 h hr
                · skip
                  refine zr_iconst C dX4_compute_89 (q := 90) (v := (1 : Int32)) (by decide) rfl ?_
                  refine zr_goto (q := 94) C dX4_compute_90 (by decide) ?_
                  exact zr_retR dX4_compute_94 h hr
              · rw [if_neg e6] at h
                by_cases e7 : p0 = (10 : Int32)
                · rw [if_pos e7] at h
                  refine zr_tableIn (tgt := 95) (off := 94) C dX4_compute_1 (by rw [e7]; decide) (by rw [e7]; decide) (by rw [e7] <;> exact rfl) (by decide) ?_
                  refine zr_iload_n C dX4_compute_95 (q := 96) rfl 1 rfl rfl ?_
                  refine zr_iload_n C dX4_compute_96 (q := 97) rfl 2 rfl rfl ?_
                  refine zr_icmp_ge (tgt := 104) (q := 100) C dX4_compute_97 h (by decide) rfl (fun h => ?_) (fun h => ?_)
                  · skip
                    refine zr_iconst C dX4_compute_104 (q := 105) (v := (0 : Int32)) (by decide) rfl ?_
                    exact zr_retR dX4_compute_105 h hr
                  · skip
                    refine zr_iconst C dX4_compute_100 (q := 101) (v := (1 : Int32)) (by decide) rfl ?_
                    refine zr_goto (q := 105) C dX4_compute_101 (by decide) ?_
                    exact zr_retR dX4_compute_105 h hr
                · rw [if_neg e7] at h
                  by_cases e8 : p0 = (11 : Int32)
                  · rw [if_pos e8] at h
                    refine zr_tableIn (tgt := 106) (off := 105) C dX4_compute_1 (by rw [e8]; decide) (by rw [e8]; decide) (by rw [e8] <;> exact rfl) (by decide) ?_
                    refine zr_iload_n C dX4_compute_106 (q := 107) rfl 1 rfl rfl ?_
                    refine zr_iload_n C dX4_compute_107 (q := 108) rfl 2 rfl rfl ?_
                    refine zr_bipush C dX4_compute_108 (q := 110) (v := (31 : Int32)) (by decide) rfl ?_
                    refine zr_iand C dX4_compute_110 (q := 111) rfl ?_
                    refine zr_ishl C dX4_compute_111 (q := 112) rfl ?_
                    exact zr_retR dX4_compute_112 h hr
                  · rw [if_neg e8] at h
                    by_cases e9 : p0 = (12 : Int32)
                    · rw [if_pos e9] at h
                      refine zr_tableIn (tgt := 113) (off := 112) C dX4_compute_1 (by rw [e9]; decide) (by rw [e9]; decide) (by rw [e9] <;> exact rfl) (by decide) ?_
                      refine zr_iload_n C dX4_compute_113 (q := 114) rfl 1 rfl rfl ?_
                      refine zr_iload_n C dX4_compute_114 (q := 115) rfl 2 rfl rfl ?_
                      refine zr_bipush C dX4_compute_115 (q := 117) (v := (31 : Int32)) (by decide) rfl ?_
                      refine zr_iand C dX4_compute_117 (q := 118) rfl ?_
                      refine zr_ishr C dX4_compute_118 (q := 119) rfl ?_
                      exact zr_retR dX4_compute_119 h hr
                    · rw [if_neg e9] at h
                      by_cases e10 : p0 = (13 : Int32)
                      · rw [if_pos e10] at h
                        refine zr_tableIn (tgt := 120) (off := 119) C dX4_compute_1 (by rw [e10]; decide) (by rw [e10]; decide) (by rw [e10] <;> exact rfl) (by decide) ?_
                        refine zr_iload_n C dX4_compute_120 (q := 121) rfl 1 rfl rfl ?_
                        refine zr_iload_n C dX4_compute_121 (q := 122) rfl 2 rfl rfl ?_
                        obtain ⟨r1, hc_122, h⟩ := zx_b1_so h
                        refine zr_csI (q := 125) C (As := [.int p1, .int p2]) (rest := []) dX4_compute_122 (zX_Machine_divide_met C.2.2.2.2.1 C.2.2.2.1 hc_122) zX_sX4_102 ⟨by decide, by decide⟩ rfl (Nat.le_of_ble_eq_true rfl) rfl rfl ?_
                        exact zr_retR dX4_compute_125 h hr
                      · rw [if_neg e10] at h
                        refine zr_tableOut (tgt := 126) C dX4_compute_1 (by have f0 := lv_neT (a := 3) e0 (by decide); have f1 := lv_neT (a := 4) e1 (by decide); have f2 := lv_neT (a := 5) e2 (by decide); have f3 := lv_neT (a := 6) e3 (by decide); have f4 := lv_neT (a := 7) e4 (by decide); have f5 := lv_neT (a := 8) e5 (by decide); have f6 := lv_neT (a := 9) e6 (by decide); have f7 := lv_neT (a := 10) e7 (by decide); have f8 := lv_neT (a := 11) e8 (by decide); have f9 := lv_neT (a := 12) e9 (by decide); have f10 := lv_neT (a := 13) e10 (by decide); omega) (by decide) ?_
                        refine zr_iconst C dX4_compute_126 (q := 127) (v := (0 : Int32)) (by decide) rfl ?_
                        exact zr_retR dX4_compute_127 h hr
theorem zX_Machine_compute_met {l : Launch} {D : va_G} {cz : ClassId × ClassId} {ad : Nat → Nat} (hS : zx_So zX_sd) (hi : zx_I zX_sd ad) {p0 p1 p2 : Int32} {s : zx_S} {v : Int32} (h : zX_Machine_compute p0 p1 p2 s = some v) : zx_MI zX_sd l D cz ad yX4_compute cX4_compute 3 .int 1 21 [.int p0, .int p1, .int p2] s v s := zx_metI hS hi (by decide +kernel) rfl (Nat.le_of_ble_eq_true rfl) (fun Z e1 e2 e3 e4 C hr => by subst e1 e2 e3 e4; exact zX_Machine_compute_w C p0 p1 p2 s hr h)
set_option maxRecDepth 100000 in
set_option maxHeartbeats 4000000 in
theorem zX_Machine_tell_w {Z : zx_Z} (C : zx_ok zX_sd Z cX4_tell 2 RX4 0 0) {r : zx_S} (p1 : Int32) (s : zx_S) (hr : zx_rV zX_sd Z cX4_tell 2 r) (h : zX_Machine_tell p1 s = some r) : zW zX_sd Z 2 0 [(0, .ref (zz_d Z 50)), (1, .int p1)] [] s := by
  unfold zX_Machine_tell at h
  refine zr_aload_n C dX4_tell_0 (q := 1) rfl 0 rfl rfl ?_
  refine zr_get C dX4_tell_1 (q := 4) zX_gX4_32_50 rfl ?_
  refine zr_bipush C dX4_tell_4 (q := 6) (v := (60 : Int32)) (by decide) rfl ?_
  refine zr_icmp_ge (tgt := 19) (q := 9) C dX4_tell_6 h (by decide) rfl (fun h => ?_) (fun h => ?_)
  · skip
    refine zr_aload_n C dX4_tell_19 (q := 20) rfl 0 rfl rfl ?_
    refine zr_dup C dX4_tell_20 (q := 21) rfl rfl ?_
    refine zr_get C dX4_tell_21 (q := 24) zX_gX4_32_50 rfl ?_
    refine zr_iconst C dX4_tell_24 (q := 25) (v := (1 : Int32)) (by decide) rfl ?_
    refine zr_iadd C dX4_tell_25 (q := 26) rfl ?_
    refine zr_top h (fun x4 h => ?_)
    refine zr_put C dX4_tell_26 (q := 29) zX_pX4_32_50 rfl rfl rfl ?_
    refine zr_ls h (fun s5 h => ?_)
    exact zr_retV dX4_tell_29 h hr
  · skip
    refine zr_aload_n C dX4_tell_9 (q := 10) rfl 0 rfl rfl ?_
    refine zr_get C dX4_tell_10 (q := 13) zX_gX4_15_50 rfl ?_
    refine zr_aload_n C dX4_tell_13 (q := 14) rfl 0 rfl rfl ?_
    refine zr_get C dX4_tell_14 (q := 17) zX_gX4_32_50 rfl ?_
    refine zr_iload_n C dX4_tell_17 (q := 18) rfl 1 rfl rfl ?_
    obtain ⟨hin_18, h⟩ := zx_ck_so h
    refine zr_iast C dX4_tell_18 (q := 19) zX_a52 hin_18 rfl ?_
    refine zr_ls h (fun s1 h => ?_)
    refine zr_aload_n C dX4_tell_19 (q := 20) rfl 0 rfl rfl ?_
    refine zr_dup C dX4_tell_20 (q := 21) rfl rfl ?_
    refine zr_get C dX4_tell_21 (q := 24) zX_gX4_32_50 rfl ?_
    refine zr_iconst C dX4_tell_24 (q := 25) (v := (1 : Int32)) (by decide) rfl ?_
    refine zr_iadd C dX4_tell_25 (q := 26) rfl ?_
    refine zr_top h (fun x2 h => ?_)
    refine zr_put C dX4_tell_26 (q := 29) zX_pX4_32_50 rfl rfl rfl ?_
    refine zr_ls h (fun s3 h => ?_)
    exact zr_retV dX4_tell_29 h hr
theorem zX_Machine_tell_met {l : Launch} {D : va_G} {cz : ClassId × ClassId} {ad : Nat → Nat} (hS : zx_So zX_sd) (hi : zx_I zX_sd ad) {p1 : Int32} {s : zx_S} {s1 : zx_S} (h : zX_Machine_tell p1 s = some s1) : zx_MV zX_sd l D cz ad yX4_tell cX4_tell 2 0 0 [.ref (ad 50), .int p1] s s1 := zx_metV hS hi (by decide +kernel) rfl (Nat.le_of_ble_eq_true rfl) (fun Z e1 e2 e3 e4 C hr => by subst e1 e2 e3 e4; exact zX_Machine_tell_w C p1 s hr h)
set_option maxRecDepth 100000 in
set_option maxHeartbeats 4000000 in
theorem zX_Machine_follow_w {Z : zx_Z} (C : zx_ok zX_sd Z cX4_follow 5 RX4 2 43) {r : zx_S} (p2 : Int32) (s : zx_S) (hr : zx_rV zX_sd Z cX4_follow 5 r) (h : zX_Machine_follow p2 s = some r) : zW zX_sd Z 5 0 [(0, .ref (zz_d Z 50)), (1, .ref (zz_d Z 42)), (2, .int p2)] [] s := by
  unfold zX_Machine_follow at h
  refine zr_aload_n C dX4_follow_0 (q := 1) rfl 1 rfl rfl ?_
  refine zr_get C dX4_follow_1 (q := 4) zX_gX4_58_42 rfl ?_
  refine zr_astore_n C dX4_follow_4 (q := 5) rfl (by decide) (lv' := [(3, .ref (zz_d Z 43)), (0, .ref (zz_d Z 50)), (1, .ref (zz_d Z 42)), (2, .int p2)]) rfl rfl ?_
  refine zr_aload_n C dX4_follow_5 (q := 6) rfl 1 rfl rfl ?_
  refine zr_get C dX4_follow_6 (q := 9) zX_gX4_22_50 rfl ?_
  refine zr_get C dX4_follow_9 (q := 12) zX_gX4_79_1 rfl ?_
  refine zr_iload_n C dX4_follow_12 (q := 13) rfl 3 rfl rfl ?_
  obtain ⟨hin_13, h⟩ := zx_ck_so h
  refine zr_iald C dX4_follow_13 (q := 14) zX_a3 hin_13 rfl ?_
  refine zr_top h (fun v4_1 h => ?_)
  refine zr_istore C dX4_follow_14 (q := 16) (by decide) (lv' := [(4, .int v4_1), (3, .ref (zz_d Z 43)), (0, .ref (zz_d Z 50)), (1, .ref (zz_d Z 42)), (2, .int p2)]) rfl rfl ?_
  refine zr_iload C dX4_follow_16 (q := 18) 0 rfl rfl ?_
  by_cases e0 : v4_1 = (0 : Int32)
  · rw [if_pos e0] at h
    refine zr_lookup (tgt := 60) (off := 42) C dX4_follow_18 (by decide) (by rw [e0] <;> exact rfl) (by decide) ?_
    refine zr_aload_n C dX4_follow_60 (q := 61) rfl 1 rfl rfl ?_
    refine zr_aload_n C dX4_follow_61 (q := 62) rfl 3 rfl rfl ?_
    refine zr_iload_n C dX4_follow_62 (q := 63) rfl 4 rfl rfl ?_
    obtain ⟨r16, hc_63, h⟩ := zx_b1_so h
    refine zr_caI (q := 66) C (As := [.int p2]) (k := 42) (rest := [.ref (zz_d Z 43)]) dX4_follow_63 (zX_ToldForm_target_met C.2.2.2.2.1 C.2.2.2.1 hc_63) zX_bX4_82_X7 zX_o42 ⟨by decide, by decide⟩ rfl (Nat.le_of_ble_eq_true rfl) rfl rfl ?_
    refine zr_aload_n C dX4_follow_66 (q := 67) rfl 2 rfl rfl ?_
    refine zr_get C dX4_follow_67 (q := 70) zX_gX4_22_50 rfl ?_
    refine zr_get C dX4_follow_70 (q := 73) zX_gX4_85_1 rfl ?_
    refine zr_iload_n C dX4_follow_73 (q := 74) rfl 4 rfl rfl ?_
    obtain ⟨hin_74, h⟩ := zx_ck_so h
    refine zr_iald C dX4_follow_74 (q := 75) zX_a5 hin_74 rfl ?_
    refine zr_top h (fun x17 h => ?_)
    obtain ⟨hin_75, h⟩ := zx_ck_so h
    refine zr_iast C dX4_follow_75 (q := 76) zX_a43 hin_75 rfl ?_
    refine zr_ls h (fun s18 h => ?_)
    refine zr_goto (q := 160) C dX4_follow_76 (by decide) ?_
    exact zr_retV dX4_follow_160 h hr
  · rw [if_neg e0] at h
    by_cases e1 : v4_1 = (1 : Int32)
    · rw [if_pos e1] at h
      refine zr_lookup (tgt := 79) (off := 61) C dX4_follow_18 (by decide) (by rw [e1] <;> exact rfl) (by decide) ?_
      refine zr_aload_n C dX4_follow_79 (q := 80) rfl 1 rfl rfl ?_
      refine zr_aload_n C dX4_follow_80 (q := 81) rfl 3 rfl rfl ?_
      refine zr_iload_n C dX4_follow_81 (q := 82) rfl 4 rfl rfl ?_
      obtain ⟨r13, hc_82, h⟩ := zx_b1_so h
      refine zr_caI (q := 85) C (As := [.int p2]) (k := 42) (rest := [.ref (zz_d Z 43)]) dX4_follow_82 (zX_ToldForm_target_met C.2.2.2.2.1 C.2.2.2.1 hc_82) zX_bX4_82_X7 zX_o42 ⟨by decide, by decide⟩ rfl (Nat.le_of_ble_eq_true rfl) rfl rfl ?_
      refine zr_aload_n C dX4_follow_85 (q := 86) rfl 2 rfl rfl ?_
      refine zr_get C dX4_follow_86 (q := 89) zX_gX4_9_50 rfl ?_
      refine zr_aload_n C dX4_follow_89 (q := 90) rfl 2 rfl rfl ?_
      refine zr_get C dX4_follow_90 (q := 93) zX_gX4_22_50 rfl ?_
      refine zr_get C dX4_follow_93 (q := 96) zX_gX4_85_1 rfl ?_
      refine zr_iload_n C dX4_follow_96 (q := 97) rfl 4 rfl rfl ?_
      obtain ⟨hin_97, h⟩ := zx_ck_so h
      refine zr_iald C dX4_follow_97 (q := 98) zX_a5 hin_97 rfl ?_
      obtain ⟨hin_98, h⟩ := zx_ck_so h
      refine zr_iald C dX4_follow_98 (q := 99) zX_a51 hin_98 rfl ?_
      refine zr_top h (fun x14 h => ?_)
      obtain ⟨hin_99, h⟩ := zx_ck_so h
      refine zr_iast C dX4_follow_99 (q := 100) zX_a43 hin_99 rfl ?_
      refine zr_ls h (fun s15 h => ?_)
      refine zr_goto (q := 160) C dX4_follow_100 (by decide) ?_
      exact zr_retV dX4_follow_160 h hr
    · rw [if_neg e1] at h
      by_cases e2 : v4_1 = (2 : Int32)
      · rw [if_pos e2] at h
        refine zr_lookup (tgt := 103) (off := 85) C dX4_follow_18 (by decide) (by rw [e2] <;> exact rfl) (by decide) ?_
        refine zr_aload_n C dX4_follow_103 (q := 104) rfl 1 rfl rfl ?_
        refine zr_aload_n C dX4_follow_104 (q := 105) rfl 3 rfl rfl ?_
        refine zr_iload_n C dX4_follow_105 (q := 106) rfl 4 rfl rfl ?_
        obtain ⟨r9, hc_106, h⟩ := zx_b1_so h
        refine zr_caI (q := 109) C (As := [.int p2]) (k := 42) (rest := [.ref (zz_d Z 43)]) dX4_follow_106 (zX_ToldForm_target_met C.2.2.2.2.1 C.2.2.2.1 hc_106) zX_bX4_82_X7 zX_o42 ⟨by decide, by decide⟩ rfl (Nat.le_of_ble_eq_true rfl) rfl rfl ?_
        refine zr_aload_n C dX4_follow_109 (q := 110) rfl 1 rfl rfl ?_
        refine zr_aload_n C dX4_follow_110 (q := 111) rfl 3 rfl rfl ?_
        refine zr_iload_n C dX4_follow_111 (q := 112) rfl 4 rfl rfl ?_
        obtain ⟨r10, hc_112, h⟩ := zx_b1_so h
        refine zr_caI (q := 115) C (As := [.int p2]) (k := 42) (rest := [.ref (zz_d Z 43), .int r9, .ref (zz_d Z 43)]) dX4_follow_112 (zX_ToldForm_left_met C.2.2.2.2.1 C.2.2.2.1 hc_112) zX_bX4_88_X7 zX_o42 ⟨by decide, by decide⟩ rfl (Nat.le_of_ble_eq_true rfl) rfl rfl ?_
        obtain ⟨hin_115, h⟩ := zx_ck_so h
        refine zr_iald C dX4_follow_115 (q := 116) zX_a43 hin_115 rfl ?_
        refine zr_top h (fun x11 h => ?_)
        obtain ⟨hin_116, h⟩ := zx_ck_so h
        refine zr_iast C dX4_follow_116 (q := 117) zX_a43 hin_116 rfl ?_
        refine zr_ls h (fun s12 h => ?_)
        refine zr_goto (q := 160) C dX4_follow_117 (by decide) ?_
        exact zr_retV dX4_follow_160 h hr
      · rw [if_neg e2] at h
        by_cases e3 : v4_1 = (14 : Int32)
        · rw [if_pos e3] at h
          refine zr_lookup (tgt := 120) (off := 102) C dX4_follow_18 (by decide) (by rw [e3] <;> exact rfl) (by decide) ?_
          refine zr_aload_n C dX4_follow_120 (q := 121) rfl 2 rfl rfl ?_
          refine zr_aload_n C dX4_follow_121 (q := 122) rfl 1 rfl rfl ?_
          refine zr_aload_n C dX4_follow_122 (q := 123) rfl 3 rfl rfl ?_
          refine zr_iload_n C dX4_follow_123 (q := 124) rfl 4 rfl rfl ?_
          obtain ⟨r7, hc_124, h⟩ := zx_b1_so h
          refine zr_caI (q := 127) C (As := [.int p2]) (k := 42) (rest := [.ref (zz_d Z 43), .ref (zz_d Z 50)]) dX4_follow_124 (zX_ToldForm_left_met C.2.2.2.2.1 C.2.2.2.1 hc_124) zX_bX4_88_X7 zX_o42 ⟨by decide, by decide⟩ rfl (Nat.le_of_ble_eq_true rfl) rfl rfl ?_
          obtain ⟨hin_127, h⟩ := zx_ck_so h
          refine zr_iald C dX4_follow_127 (q := 128) zX_a43 hin_127 rfl ?_
          obtain ⟨s8, hc_128, h⟩ := zx_b1_so h
          refine zr_cvV (q := 131) C (As := [.int (s 43 (r7).toNatClampNeg)]) (k := 50) (rest := []) dX4_follow_128 (zX_Machine_tell_met C.2.2.2.2.1 C.2.2.2.1 hc_128) zX_vX4_91 zX_o50 ⟨by decide, by decide⟩ rfl (Nat.le_of_ble_eq_true rfl) rfl rfl ?_
          refine zr_goto (q := 160) C dX4_follow_131 (by decide) ?_
          exact zr_retV dX4_follow_160 h hr
        · rw [if_neg e3] at h
          refine zr_lookup (tgt := 134) (off := 116) C dX4_follow_18 (by decide) (by show Op.lookupswitch.offset [(0, 42), (1, 61), (2, 85), (14, 102)] _ _ = _; rw [lv_osw e0 (by decide), lv_osw e1 (by decide), lv_osw e2 (by decide), lv_osw e3 (by decide)] <;> exact rfl) (by decide) ?_
          refine zr_aload_n C dX4_follow_134 (q := 135) rfl 1 rfl rfl ?_
          refine zr_aload_n C dX4_follow_135 (q := 136) rfl 3 rfl rfl ?_
          refine zr_iload_n C dX4_follow_136 (q := 137) rfl 4 rfl rfl ?_
          obtain ⟨r2, hc_137, h⟩ := zx_b1_so h
          refine zr_caI (q := 140) C (As := [.int p2]) (k := 42) (rest := [.ref (zz_d Z 43)]) dX4_follow_137 (zX_ToldForm_target_met C.2.2.2.2.1 C.2.2.2.1 hc_137) zX_bX4_82_X7 zX_o42 ⟨by decide, by decide⟩ rfl (Nat.le_of_ble_eq_true rfl) rfl rfl ?_
          refine zr_iload C dX4_follow_140 (q := 142) 0 rfl rfl ?_
          refine zr_aload_n C dX4_follow_142 (q := 143) rfl 1 rfl rfl ?_
          refine zr_aload_n C dX4_follow_143 (q := 144) rfl 3 rfl rfl ?_
          refine zr_iload_n C dX4_follow_144 (q := 145) rfl 4 rfl rfl ?_
          obtain ⟨r3, hc_145, h⟩ := zx_b1_so h
          refine zr_caI (q := 148) C (As := [.int p2]) (k := 42) (rest := [.ref (zz_d Z 43), .int v4_1, .int r2, .ref (zz_d Z 43)]) dX4_follow_145 (zX_ToldForm_left_met C.2.2.2.2.1 C.2.2.2.1 hc_145) zX_bX4_88_X7 zX_o42 ⟨by decide, by decide⟩ rfl (Nat.le_of_ble_eq_true rfl) rfl rfl ?_
          obtain ⟨hin_148, h⟩ := zx_ck_so h
          refine zr_iald C dX4_follow_148 (q := 149) zX_a43 hin_148 rfl ?_
          refine zr_aload_n C dX4_follow_149 (q := 150) rfl 1 rfl rfl ?_
          refine zr_aload_n C dX4_follow_150 (q := 151) rfl 3 rfl rfl ?_
          refine zr_iload_n C dX4_follow_151 (q := 152) rfl 4 rfl rfl ?_
          obtain ⟨r4, hc_152, h⟩ := zx_b1_so h
          refine zr_caI (q := 155) C (As := [.int p2]) (k := 42) (rest := [.ref (zz_d Z 43), .int (s 43 (r3).toNatClampNeg), .int v4_1, .int r2, .ref (zz_d Z 43)]) dX4_follow_152 (zX_ToldForm_right_met C.2.2.2.2.1 C.2.2.2.1 hc_152) zX_bX4_95_X7 zX_o42 ⟨by decide, by decide⟩ rfl (Nat.le_of_ble_eq_true rfl) rfl rfl ?_
          obtain ⟨hin_155, h⟩ := zx_ck_so h
          refine zr_iald C dX4_follow_155 (q := 156) zX_a43 hin_155 rfl ?_
          obtain ⟨r5, hc_156, h⟩ := zx_b1_so h
          refine zr_csI (q := 159) C (As := [.int v4_1, .int (s 43 (r3).toNatClampNeg), .int (s 43 (r4).toNatClampNeg)]) (rest := [.int r2, .ref (zz_d Z 43)]) dX4_follow_156 (zX_Machine_compute_met C.2.2.2.2.1 C.2.2.2.1 hc_156) zX_sX4_98 ⟨by decide, by decide⟩ rfl (Nat.le_of_ble_eq_true rfl) rfl rfl ?_
          obtain ⟨hin_159, h⟩ := zx_ck_so h
          refine zr_iast C dX4_follow_159 (q := 160) zX_a43 hin_159 rfl ?_
          refine zr_ls h (fun s6 h => ?_)
          exact zr_retV dX4_follow_160 h hr
theorem zX_Machine_follow_met {l : Launch} {D : va_G} {cz : ClassId × ClassId} {ad : Nat → Nat} (hS : zx_So zX_sd) (hi : zx_I zX_sd ad) {p2 : Int32} {s : zx_S} {s1 : zx_S} (h : zX_Machine_follow p2 s = some s1) : zx_MV zX_sd l D cz ad yX4_follow cX4_follow 5 2 43 [.ref (ad 50), .ref (ad 42), .int p2] s s1 := zx_metV hS hi (by decide +kernel) rfl (Nat.le_of_ble_eq_true rfl) (fun Z e1 e2 e3 e4 C hr => by subst e1 e2 e3 e4; exact zX_Machine_follow_w C p2 s hr h)
set_option maxRecDepth 100000 in
set_option maxHeartbeats 4000000 in
theorem zX_Machine_followBlock_L13_w {Z : zx_Z} (C : zx_ok zX_sd Z cX4_followBlock 3 RX4 3 67) {r : Int32 × zx_S} {k46 : zx_S → Option (Int32 × zx_S)} (hr : zx_rI zX_sd Z cX4_followBlock 3 .boolean r.1 r.2) (h46 : ∀ (s1 : zx_S), k46 s1 = some r → zW zX_sd Z 3 46 [] [] s1) : ∀ (n : Nat) (v2 : Int32) (s : zx_S), zX_Machine_followBlock_L13 k46 n v2 s = some r → zW zX_sd Z 3 13 [(0, .ref (zz_d Z 50)), (1, .ref (zz_d Z 42)), (2, .int v2)] [] s := by
  intro n
  induction n with
  | zero => intro v2 s h; unfold zX_Machine_followBlock_L13 at h; cases h
  | succ n ih =>
    intro v2 s h
    unfold zX_Machine_followBlock_L13 at h
    refine zr_iload_n C dX4_followBlock_13 (q := 14) rfl 2 rfl rfl ?_
    refine zr_aload_n C dX4_followBlock_14 (q := 15) rfl 0 rfl rfl ?_
    refine zr_get C dX4_followBlock_15 (q := 18) zX_gX4_22_50 rfl ?_
    refine zr_get C dX4_followBlock_18 (q := 21) zX_gX4_68_1 rfl ?_
    refine zr_aload_n C dX4_followBlock_21 (q := 22) rfl 0 rfl rfl ?_
    refine zr_get C dX4_followBlock_22 (q := 25) zX_gX4_35_50 rfl ?_
    refine zr_iconst C dX4_followBlock_25 (q := 26) (v := (1 : Int32)) (by decide) rfl ?_
    refine zr_iadd C dX4_followBlock_26 (q := 27) rfl ?_
    obtain ⟨hin_27, h⟩ := zx_ck_so h
    refine zr_iald C dX4_followBlock_27 (q := 28) zX_a2 hin_27 rfl ?_
    refine zr_icmp_ge (tgt := 60) (q := 31) C dX4_followBlock_28 h (by decide) rfl (fun h => ?_) (fun h => ?_)
    · skip
      refine zr_iconst C dX4_followBlock_60 (q := 61) (v := (1 : Int32)) (by decide) rfl ?_
      exact zr_retZI dX4_followBlock_61 (Or.inr rfl) h hr
    · skip
      refine zr_aload_n C dX4_followBlock_31 (q := 32) rfl 1 rfl rfl ?_
      refine zr_iload_n C dX4_followBlock_32 (q := 33) rfl 2 rfl rfl ?_
      obtain ⟨r2, hc_33, h⟩ := zx_b1_so h
      refine zr_caI (q := 36) C (As := [.int v2]) (k := 42) (rest := []) dX4_followBlock_33 (zX_ToldForm_keeps_met C.2.2.2.2.1 C.2.2.2.1 hc_33) zX_bX4_71_X7 zX_o42 ⟨by decide, by decide⟩ rfl (Nat.le_of_ble_eq_true rfl) rfl rfl ?_
      refine zr_if_eq (tgt := 54) (q := 39) C dX4_followBlock_36 h (by decide) rfl (fun h => ?_) (fun h => ?_)
      · skip
        refine zr_iinc C dX4_followBlock_54 (q := 57) h (by decide) 2 rfl (by decide) (lw := fun v2_7 => [(2, .int v2_7), (0, .ref (zz_d Z 50)), (1, .ref (zz_d Z 42))]) (fun _ => rfl) rfl (fun v2_7 h => ?_)
        refine zr_goto (q := 13) C dX4_followBlock_57 (by decide) ?_
        exact zr_sub [1, 2, 0] rfl (ih v2_7 s h)
      · skip
        refine zr_aload_n C dX4_followBlock_39 (q := 40) rfl 0 rfl rfl ?_
        obtain ⟨r3, s4, hc_40, h⟩ := zx_b2_so h
        refine zr_cvI (q := 43) C (As := []) (k := 50) (rest := []) dX4_followBlock_40 (zX_Machine_pay_met C.2.2.2.2.1 C.2.2.2.1 hc_40) zX_vX4_48 zX_o50 ⟨by decide, by decide⟩ rfl (Nat.le_of_ble_eq_true rfl) rfl rfl ?_
        refine zr_if_ne (tgt := 48) (q := 46) C dX4_followBlock_43 h (by decide) rfl (fun h => ?_) (fun h => ?_)
        · skip
          refine zr_aload_n C dX4_followBlock_48 (q := 49) rfl 0 rfl rfl ?_
          refine zr_aload_n C dX4_followBlock_49 (q := 50) rfl 1 rfl rfl ?_
          refine zr_iload_n C dX4_followBlock_50 (q := 51) rfl 2 rfl rfl ?_
          obtain ⟨s5, hc_51, h⟩ := zx_b1_so h
          refine zr_cvV (q := 54) C (As := [.ref (zz_d Z 42), .int v2]) (k := 50) (rest := []) dX4_followBlock_51 (zX_Machine_follow_met C.2.2.2.2.1 C.2.2.2.1 hc_51) zX_vX4_75 zX_o50 ⟨by decide, by decide⟩ rfl (Nat.le_of_ble_eq_true rfl) rfl rfl ?_
          refine zr_iinc C dX4_followBlock_54 (q := 57) h (by decide) 2 rfl (by decide) (lw := fun v2_6 => [(2, .int v2_6), (0, .ref (zz_d Z 50)), (1, .ref (zz_d Z 42))]) (fun _ => rfl) rfl (fun v2_6 h => ?_)
          refine zr_goto (q := 13) C dX4_followBlock_57 (by decide) ?_
          exact zr_sub [1, 2, 0] rfl (ih v2_6 s5 h)
        · skip
          exact zr_sub [] rfl (h46 s4 h)
set_option maxRecDepth 100000 in
set_option maxHeartbeats 4000000 in
theorem zX_Machine_followBlock_w {Z : zx_Z} (C : zx_ok zX_sd Z cX4_followBlock 3 RX4 3 67) {r : Int32 × zx_S} (s : zx_S) (hr : zx_rI zX_sd Z cX4_followBlock 3 .boolean r.1 r.2) (h : zX_Machine_followBlock s = some r) : zW zX_sd Z 3 0 [(0, .ref (zz_d Z 50)), (1, .ref (zz_d Z 42))] [] s := by
  unfold zX_Machine_followBlock at h
  refine zr_aload_n C dX4_followBlock_0 (q := 1) rfl 0 rfl rfl ?_
  refine zr_get C dX4_followBlock_1 (q := 4) zX_gX4_22_50 rfl ?_
  refine zr_get C dX4_followBlock_4 (q := 7) zX_gX4_68_1 rfl ?_
  refine zr_aload_n C dX4_followBlock_7 (q := 8) rfl 0 rfl rfl ?_
  refine zr_get C dX4_followBlock_8 (q := 11) zX_gX4_35_50 rfl ?_
  obtain ⟨hin_11, h⟩ := zx_ck_so h
  refine zr_iald C dX4_followBlock_11 (q := 12) zX_a2 hin_11 rfl ?_
  refine zr_top h (fun v2_1 h => ?_)
  refine zr_istore_n C dX4_followBlock_12 (q := 13) rfl (by decide) (lv' := [(2, .int v2_1), (0, .ref (zz_d Z 50)), (1, .ref (zz_d Z 42))]) rfl rfl ?_
  refine zr_sub [1, 2, 0] rfl (zX_Machine_followBlock_L13_w C hr (fun s8 h => ?_) 10000 v2_1 s h)
  · skip
    refine zr_iconst C dX4_followBlock_46 (q := 47) (v := (0 : Int32)) (by decide) rfl ?_
    exact zr_retZI dX4_followBlock_47 (Or.inl rfl) h hr
theorem zX_Machine_followBlock_met {l : Launch} {D : va_G} {cz : ClassId × ClassId} {ad : Nat → Nat} (hS : zx_So zX_sd) (hi : zx_I zX_sd ad) {s : zx_S} {v : Int32} {s1 : zx_S} (h : zX_Machine_followBlock s = some (v, s1)) : zx_MI zX_sd l D cz ad yX4_followBlock cX4_followBlock 3 .boolean 3 67 [.ref (ad 50), .ref (ad 42)] s v s1 := zx_metI hS hi (by decide +kernel) rfl (Nat.le_of_ble_eq_true rfl) (fun Z e1 e2 e3 e4 C hr => by subst e1 e2 e3 e4; exact zX_Machine_followBlock_w (r := (v, s1)) C s hr h)
set_option maxRecDepth 100000 in
set_option maxHeartbeats 4000000 in
theorem zX_Program_next_w {Z : zx_Z} (C : zx_ok zX_sd Z cX5_next 3 RX5 0 0) {r : Int32} (p1 p2 : Int32) (s : zx_S) (hr : zx_rI zX_sd Z cX5_next 3 .int r s) (h : zX_Program_next p1 p2 s = some r) : zW zX_sd Z 3 0 [(0, .ref (zz_d Z 1)), (1, .int p1), (2, .int p2)] [] s := by
  unfold zX_Program_next at h
  refine zr_iload_n C dX5_next_0 (q := 1) rfl 2 rfl rfl ?_
  refine zr_if_eq (tgt := 13) (q := 4) C dX5_next_1 h (by decide) rfl (fun h => ?_) (fun h => ?_)
  · skip
    refine zr_aload_n C dX5_next_13 (q := 14) rfl 0 rfl rfl ?_
    refine zr_get C dX5_next_14 (q := 17) zX_gX5_36_1 rfl ?_
    refine zr_iload_n C dX5_next_17 (q := 18) rfl 1 rfl rfl ?_
    obtain ⟨hin_18, h⟩ := zx_ck_so h
    refine zr_iald C dX5_next_18 (q := 19) zX_a10 hin_18 rfl ?_
    exact zr_retR dX5_next_19 h hr
  · skip
    refine zr_aload_n C dX5_next_4 (q := 5) rfl 0 rfl rfl ?_
    refine zr_get C dX5_next_5 (q := 8) zX_gX5_33_1 rfl ?_
    refine zr_iload_n C dX5_next_8 (q := 9) rfl 1 rfl rfl ?_
    obtain ⟨hin_9, h⟩ := zx_ck_so h
    refine zr_iald C dX5_next_9 (q := 10) zX_a9 hin_9 rfl ?_
    refine zr_goto (q := 19) C dX5_next_10 (by decide) ?_
    exact zr_retR dX5_next_19 h hr
theorem zX_Program_next_met {l : Launch} {D : va_G} {cz : ClassId × ClassId} {ad : Nat → Nat} (hS : zx_So zX_sd) (hi : zx_I zX_sd ad) {p1 p2 : Int32} {s : zx_S} {v : Int32} (h : zX_Program_next p1 p2 s = some v) : zx_MI zX_sd l D cz ad yX5_next cX5_next 3 .int 0 0 [.ref (ad 1), .int p1, .int p2] s v s := zx_metI hS hi (by decide +kernel) rfl (Nat.le_of_ble_eq_true rfl) (fun Z e1 e2 e3 e4 C hr => by subst e1 e2 e3 e4; exact zX_Program_next_w C p1 p2 s hr h)
set_option maxRecDepth 100000 in
set_option maxHeartbeats 4000000 in
theorem zX_ToldForm_endCell_w {Z : zx_Z} (C : zx_ok zX_sd Z cX7_endCell 2 RX7 3 63) {r : Int32} (p1 : Int32) (s : zx_S) (hr : zx_rI zX_sd Z cX7_endCell 2 .int r s) (h : zX_ToldForm_endCell p1 s = some r) : zW zX_sd Z 2 0 [(0, .ref (zz_d Z 42)), (1, .int p1)] [] s := by
  unfold zX_ToldForm_endCell at h
  refine zr_aload_n C dX7_endCell_0 (q := 1) rfl 0 rfl rfl ?_
  refine zr_get C dX7_endCell_1 (q := 4) zX_gX7_9_42 rfl ?_
  refine zr_iload_n C dX7_endCell_4 (q := 5) rfl 1 rfl rfl ?_
  obtain ⟨r1, hc_5, h⟩ := zx_b1_so h
  refine zr_cvI (q := 8) C (As := [.int p1]) (k := 1) (rest := []) dX7_endCell_5 (zX_Program_endVariable_met C.2.2.2.2.1 C.2.2.2.1 hc_5) zX_vX7_36 zX_o1 ⟨by decide, by decide⟩ rfl (Nat.le_of_ble_eq_true rfl) rfl rfl ?_
  exact zr_retR dX7_endCell_8 h hr
theorem zX_ToldForm_endCell_met {l : Launch} {D : va_G} {cz : ClassId × ClassId} {ad : Nat → Nat} (hS : zx_So zX_sd) (hi : zx_I zX_sd ad) {p1 : Int32} {s : zx_S} {v : Int32} (h : zX_ToldForm_endCell p1 s = some v) : zx_MI zX_sd l D cz ad yX7_endCell cX7_endCell 2 .int 3 63 [.ref (ad 42), .int p1] s v s := zx_metI hS hi (by decide +kernel) rfl (Nat.le_of_ble_eq_true rfl) (fun Z e1 e2 e3 e4 C hr => by subst e1 e2 e3 e4; exact zX_ToldForm_endCell_w C p1 s hr h)
set_option maxRecDepth 100000 in
set_option maxHeartbeats 4000000 in
theorem zX_Machine_perform_J94_w {Z : zx_Z} (C : zx_ok zX_sd Z cX4_perform 6 RX4 4 89) {r : Int32 × zx_S} (v3 v4 t0 : Int32) (s : zx_S) {k24 : Int32 → Int32 → zx_S → Option (Int32 × zx_S)} {k101 : Int32 → zx_S → Option (Int32 × zx_S)} (hr : zx_rI zX_sd Z cX4_perform 6 .int r.1 r.2) (h24 : ∀ (a0 : Int32) (a1 : Int32) (s1 : zx_S), k24 a0 a1 s1 = some r → zW zX_sd Z 6 24 [(0, .ref (zz_d Z 50)), (1, .ref (zz_d Z 42)), (2, .int a0), (3, .int a1)] [] s1) (h101 : ∀ (a0 : Int32) (s1 : zx_S), k101 a0 s1 = some r → zW zX_sd Z 6 101 [(0, .ref (zz_d Z 50)), (5, .int a0)] [] s1) (h : zX_Machine_perform_J94 k24 k101 v3 v4 t0 s = some r) : zW zX_sd Z 6 94 [(0, .ref (zz_d Z 50)), (1, .ref (zz_d Z 42)), (3, .int v3), (4, .int v4)] [.int t0] s := by
  unfold zX_Machine_perform_J94 at h
  refine zr_istore C dX4_perform_94 (q := 96) (by decide) (lv' := [(5, .int t0), (0, .ref (zz_d Z 50)), (1, .ref (zz_d Z 42)), (3, .int v3), (4, .int v4)]) rfl rfl ?_
  refine zr_iload C dX4_perform_96 (q := 98) 4 rfl rfl ?_
  refine zr_if_ne (tgt := 109) (q := 101) C dX4_perform_98 h (by decide) rfl (fun h => ?_) (fun h => ?_)
  · skip
    refine zr_aload_n C dX4_perform_109 (q := 110) rfl 1 rfl rfl ?_
    refine zr_get C dX4_perform_110 (q := 113) zX_gX4_35_50 rfl ?_
    refine zr_top h (fun v2_11 h => ?_)
    refine zr_istore_n C dX4_perform_113 (q := 114) rfl (by decide) (lv' := [(2, .int v2_11), (5, .int t0), (0, .ref (zz_d Z 50)), (1, .ref (zz_d Z 42)), (3, .int v3), (4, .int v4)]) rfl rfl ?_
    refine zr_aload_n C dX4_perform_114 (q := 115) rfl 2 rfl rfl ?_
    refine zr_aload_n C dX4_perform_115 (q := 116) rfl 2 rfl rfl ?_
    refine zr_get C dX4_perform_116 (q := 119) zX_gX4_22_50 rfl ?_
    refine zr_aload_n C dX4_perform_119 (q := 120) rfl 2 rfl rfl ?_
    refine zr_get C dX4_perform_120 (q := 123) zX_gX4_35_50 rfl ?_
    refine zr_iload C dX4_perform_123 (q := 125) 1 rfl rfl ?_
    refine zr_if_eq (tgt := 132) (q := 128) C dX4_perform_125 h (by decide) rfl (fun h => ?_) (fun h => ?_)
    · skip
      refine zr_iconst C dX4_perform_132 (q := 133) (v := (0 : Int32)) (by decide) rfl ?_
      obtain ⟨r15, hc_133, h⟩ := zx_b1_so h
      refine zr_cvI (q := 136) C (As := [.int (s 50 7), .int (0 : Int32)]) (k := 1) (rest := [.ref (zz_d Z 50)]) dX4_perform_133 (zX_Program_next_met C.2.2.2.2.1 C.2.2.2.1 hc_133) zX_vX4_64 zX_o1 ⟨by decide, by decide⟩ rfl (Nat.le_of_ble_eq_true rfl) rfl rfl ?_
      refine zr_put C dX4_perform_136 (q := 139) zX_pX4_35_50 rfl rfl rfl ?_
      refine zr_ls h (fun s16 h => ?_)
      refine zr_iinc C dX4_perform_139 (q := 142) h (by decide) 4 rfl (by decide) (lw := fun v3_17 => [(3, .int v3_17), (2, .int v2_11), (5, .int t0), (0, .ref (zz_d Z 50)), (1, .ref (zz_d Z 42)), (4, .int v4)]) (fun _ => rfl) rfl (fun v3_17 h => ?_)
      refine zr_goto (q := 24) C dX4_perform_142 (by decide) ?_
      exact zr_sub [3, 4, 1, 0] rfl (h24 v2_11 v3_17 s16 h)
    · skip
      refine zr_iconst C dX4_perform_128 (q := 129) (v := (1 : Int32)) (by decide) rfl ?_
      refine zr_goto (q := 133) C dX4_perform_129 (by decide) ?_
      obtain ⟨r12, hc_133, h⟩ := zx_b1_so h
      refine zr_cvI (q := 136) C (As := [.int (s 50 7), .int (1 : Int32)]) (k := 1) (rest := [.ref (zz_d Z 50)]) dX4_perform_133 (zX_Program_next_met C.2.2.2.2.1 C.2.2.2.1 hc_133) zX_vX4_64 zX_o1 ⟨by decide, by decide⟩ rfl (Nat.le_of_ble_eq_true rfl) rfl rfl ?_
      refine zr_put C dX4_perform_136 (q := 139) zX_pX4_35_50 rfl rfl rfl ?_
      refine zr_ls h (fun s13 h => ?_)
      refine zr_iinc C dX4_perform_139 (q := 142) h (by decide) 4 rfl (by decide) (lw := fun v3_14 => [(3, .int v3_14), (2, .int v2_11), (5, .int t0), (0, .ref (zz_d Z 50)), (1, .ref (zz_d Z 42)), (4, .int v4)]) (fun _ => rfl) rfl (fun v3_14 h => ?_)
      refine zr_goto (q := 24) C dX4_perform_142 (by decide) ?_
      exact zr_sub [3, 4, 1, 0] rfl (h24 v2_11 v3_14 s13 h)
  · skip
    exact zr_sub [1, 0] rfl (h101 t0 s h)
set_option maxRecDepth 100000 in
set_option maxHeartbeats 4000000 in
theorem zX_Machine_perform_L24_w {Z : zx_Z} (C : zx_ok zX_sd Z cX4_perform 6 RX4 4 89) {r : Int32 × zx_S} {k101 : Int32 → zx_S → Option (Int32 × zx_S)} (hr : zx_rI zX_sd Z cX4_perform 6 .int r.1 r.2) (h101 : ∀ (a0 : Int32) (s1 : zx_S), k101 a0 s1 = some r → zW zX_sd Z 6 101 [(0, .ref (zz_d Z 50)), (5, .int a0)] [] s1) : ∀ (n : Nat) (v2 : Int32) (v3 : Int32) (s : zx_S), zX_Machine_perform_L24 k101 n v2 v3 s = some r → zW zX_sd Z 6 24 [(0, .ref (zz_d Z 50)), (1, .ref (zz_d Z 42)), (2, .int v2), (3, .int v3)] [] s := by
  intro n
  induction n with
  | zero => intro v2 v3 s h; unfold zX_Machine_perform_L24 at h; cases h
  | succ n ih =>
    intro v2 v3 s h
    unfold zX_Machine_perform_L24 at h
    refine zr_iload_n C dX4_perform_24 (q := 25) rfl 3 rfl rfl ?_
    refine zr_aload_n C dX4_perform_25 (q := 26) rfl 0 rfl rfl ?_
    refine zr_get C dX4_perform_26 (q := 29) zX_gX4_18_50 rfl ?_
    refine zr_icmp_gt (tgt := 145) (q := 32) C dX4_perform_29 h (by decide) rfl (fun h => ?_) (fun h => ?_)
    · skip
      refine zr_iconst C dX4_perform_145 (q := 146) (v := (1 : Int32)) (by decide) rfl ?_
      exact zr_retI dX4_perform_146 h hr
    · skip
      refine zr_aload_n C dX4_perform_32 (q := 33) rfl 1 rfl rfl ?_
      refine zr_iload_n C dX4_perform_33 (q := 34) rfl 2 rfl rfl ?_
      refine zr_aload_n C dX4_perform_34 (q := 35) rfl 0 rfl rfl ?_
      refine zr_get C dX4_perform_35 (q := 38) zX_gX4_35_50 rfl ?_
      obtain ⟨s5, hc_38, h⟩ := zx_b1_so h
      refine zr_caV (q := 41) C (As := [.int v2, .int (s 50 7)]) (k := 42) (rest := []) dX4_perform_38 (zX_ToldForm_begin_met C.2.2.2.2.1 C.2.2.2.1 hc_38) zX_bX4_38_X7 zX_o42 ⟨by decide, by decide⟩ rfl (Nat.le_of_ble_eq_true rfl) rfl rfl ?_
      refine zr_aload_n C dX4_perform_41 (q := 42) rfl 0 rfl rfl ?_
      refine zr_aload_n C dX4_perform_42 (q := 43) rfl 1 rfl rfl ?_
      obtain ⟨r6, s7, hc_43, h⟩ := zx_b2_so h
      refine zr_cvI (q := 46) C (As := [.ref (zz_d Z 42)]) (k := 50) (rest := []) dX4_perform_43 (zX_Machine_followBlock_met C.2.2.2.2.1 C.2.2.2.1 hc_43) zX_vX4_44 zX_o50 ⟨by decide, by decide⟩ rfl (Nat.le_of_ble_eq_true rfl) rfl rfl ?_
      refine zr_if_eq (tgt := 56) (q := 49) C dX4_perform_46 h (by decide) rfl (fun h => ?_) (fun h => ?_)
      · skip
        refine zr_iconst C dX4_perform_56 (q := 57) (v := (1 : Int32)) (by decide) rfl ?_
        exact zr_retI dX4_perform_57 h hr
      · skip
        refine zr_aload_n C dX4_perform_49 (q := 50) rfl 0 rfl rfl ?_
        obtain ⟨r8, s9, hc_50, h⟩ := zx_b2_so h
        refine zr_cvI (q := 53) C (As := []) (k := 50) (rest := []) dX4_perform_50 (zX_Machine_pay_met C.2.2.2.2.1 C.2.2.2.1 hc_50) zX_vX4_48 zX_o50 ⟨by decide, by decide⟩ rfl (Nat.le_of_ble_eq_true rfl) rfl rfl ?_
        refine zr_if_ne (tgt := 58) (q := 56) C dX4_perform_53 h (by decide) rfl (fun h => ?_) (fun h => ?_)
        · skip
          refine zr_aload_n C dX4_perform_58 (q := 59) rfl 0 rfl rfl ?_
          refine zr_get C dX4_perform_59 (q := 62) zX_gX4_22_50 rfl ?_
          refine zr_aload_n C dX4_perform_62 (q := 63) rfl 0 rfl rfl ?_
          refine zr_get C dX4_perform_63 (q := 66) zX_gX4_35_50 rfl ?_
          obtain ⟨r10, hc_66, h⟩ := zx_b1_so h
          refine zr_cvI (q := 69) C (As := [.int (s9 50 7)]) (k := 1) (rest := []) dX4_perform_66 (zX_Program_howCounts_met C.2.2.2.2.1 C.2.2.2.1 hc_66) zX_vX4_52 zX_o1 ⟨by decide, by decide⟩ rfl (Nat.le_of_ble_eq_true rfl) rfl rfl ?_
          refine zr_istore C dX4_perform_69 (q := 71) (by decide) (lv' := [(4, .int r10), (0, .ref (zz_d Z 50)), (1, .ref (zz_d Z 42)), (2, .int v2), (3, .int v3)]) rfl rfl ?_
          refine zr_iload C dX4_perform_71 (q := 73) 0 rfl rfl ?_
          refine zr_iconst C dX4_perform_73 (q := 74) (v := (1 : Int32)) (by decide) rfl ?_
          refine zr_icmp_ne (tgt := 81) (q := 77) C dX4_perform_74 h (by decide) rfl (fun h => ?_) (fun h => ?_)
          · skip
            refine zr_aload_n C dX4_perform_81 (q := 82) rfl 2 rfl rfl ?_
            refine zr_get C dX4_perform_82 (q := 85) zX_gX4_58_42 rfl ?_
            refine zr_aload_n C dX4_perform_85 (q := 86) rfl 2 rfl rfl ?_
            refine zr_aload_n C dX4_perform_86 (q := 87) rfl 1 rfl rfl ?_
            refine zr_get C dX4_perform_87 (q := 90) zX_gX4_35_50 rfl ?_
            obtain ⟨r18, hc_90, h⟩ := zx_b1_so h
            refine zr_caI (q := 93) C (As := [.int (s9 50 7)]) (k := 42) (rest := [.ref (zz_d Z 43)]) dX4_perform_90 (zX_ToldForm_endCell_met C.2.2.2.2.1 C.2.2.2.1 hc_90) zX_bX4_61_X7 zX_o42 ⟨by decide, by decide⟩ rfl (Nat.le_of_ble_eq_true rfl) rfl rfl ?_
            obtain ⟨hin_93, h⟩ := zx_ck_so h
            refine zr_iald C dX4_perform_93 (q := 94) zX_a43 hin_93 rfl ?_
            exact zr_sub [1, 2, 4, 0] rfl (zX_Machine_perform_J94_w C v3 r10 (s9 43 (r18).toNatClampNeg) s9 hr (ih) (h101) h)
          · skip
            refine zr_iconst C dX4_perform_77 (q := 78) (v := (0 : Int32)) (by decide) rfl ?_
            refine zr_goto (q := 94) C dX4_perform_78 (by decide) ?_
            exact zr_sub [1, 2, 4, 0] rfl (zX_Machine_perform_J94_w C v3 r10 (0 : Int32) s9 hr (ih) (h101) h)
        · skip
          refine zr_iconst C dX4_perform_56 (q := 57) (v := (1 : Int32)) (by decide) rfl ?_
          exact zr_retI dX4_perform_57 h hr
set_option maxRecDepth 100000 in
set_option maxHeartbeats 4000000 in
theorem zX_Machine_perform_w {Z : zx_Z} (C : zx_ok zX_sd Z cX4_perform 6 RX4 4 89) {r : Int32 × zx_S} (s : zx_S) (hr : zx_rI zX_sd Z cX4_perform 6 .int r.1 r.2) (h : zX_Machine_perform s = some r) : zW zX_sd Z 6 0 [(0, .ref (zz_d Z 50)), (1, .ref (zz_d Z 42))] [] s := by
  unfold zX_Machine_perform at h
  refine zr_aload_n C dX4_perform_0 (q := 1) rfl 0 rfl rfl ?_
  refine zr_iconst C dX4_perform_1 (q := 2) (v := (0 : Int32)) (by decide) rfl ?_
  refine zr_put C dX4_perform_2 (q := 5) zX_pX4_26_50 rfl rfl rfl ?_
  refine zr_ls h (fun s1 h => ?_)
  refine zr_aload_n C dX4_perform_5 (q := 6) rfl 0 rfl rfl ?_
  refine zr_iconst C dX4_perform_6 (q := 7) (v := (0 : Int32)) (by decide) rfl ?_
  refine zr_put C dX4_perform_7 (q := 10) zX_pX4_29_50 rfl rfl rfl ?_
  refine zr_ls h (fun s2 h => ?_)
  refine zr_aload_n C dX4_perform_10 (q := 11) rfl 0 rfl rfl ?_
  refine zr_iconst C dX4_perform_11 (q := 12) (v := (0 : Int32)) (by decide) rfl ?_
  refine zr_put C dX4_perform_12 (q := 15) zX_pX4_32_50 rfl rfl rfl ?_
  refine zr_ls h (fun s3 h => ?_)
  refine zr_aload_n C dX4_perform_15 (q := 16) rfl 0 rfl rfl ?_
  refine zr_iconst C dX4_perform_16 (q := 17) (v := (0 : Int32)) (by decide) rfl ?_
  refine zr_put C dX4_perform_17 (q := 20) zX_pX4_35_50 rfl rfl rfl ?_
  refine zr_ls h (fun s4 h => ?_)
  refine zr_iconst C dX4_perform_20 (q := 21) (v := (-1 : Int32)) (by decide) rfl ?_
  refine zr_istore_n C dX4_perform_21 (q := 22) rfl (by decide) (lv' := [(2, .int (-1 : Int32)), (0, .ref (zz_d Z 50)), (1, .ref (zz_d Z 42))]) rfl rfl ?_
  refine zr_iconst C dX4_perform_22 (q := 23) (v := (0 : Int32)) (by decide) rfl ?_
  refine zr_istore_n C dX4_perform_23 (q := 24) rfl (by decide) (lv' := [(3, .int (0 : Int32)), (2, .int (-1 : Int32)), (0, .ref (zz_d Z 50)), (1, .ref (zz_d Z 42))]) rfl rfl ?_
  refine zr_sub [2, 3, 1, 0] rfl (zX_Machine_perform_L24_w C hr (fun v5_19 s20 h => ?_) 10000 (-1 : Int32) (0 : Int32) s4 h)
  · skip
    refine zr_aload_n C dX4_perform_101 (q := 102) rfl 0 rfl rfl ?_
    refine zr_iload C dX4_perform_102 (q := 104) 1 rfl rfl ?_
    refine zr_put C dX4_perform_104 (q := 107) zX_pX4_26_50 rfl rfl rfl ?_
    refine zr_ls h (fun s21 h => ?_)
    refine zr_iconst C dX4_perform_107 (q := 108) (v := (0 : Int32)) (by decide) rfl ?_
    exact zr_retI dX4_perform_108 h hr
theorem zX_Machine_perform_met {l : Launch} {D : va_G} {cz : ClassId × ClassId} {ad : Nat → Nat} (hS : zx_So zX_sd) (hi : zx_I zX_sd ad) {s : zx_S} {v : Int32} {s1 : zx_S} (h : zX_Machine_perform s = some (v, s1)) : zx_MI zX_sd l D cz ad yX4_perform cX4_perform 6 .int 4 89 [.ref (ad 50), .ref (ad 42)] s v s1 := zx_metI hS hi (by decide +kernel) rfl (Nat.le_of_ble_eq_true rfl) (fun Z e1 e2 e3 e4 C hr => by subst e1 e2 e3 e4; exact zX_Machine_perform_w (r := (v, s1)) C s hr h)
set_option maxRecDepth 100000 in
set_option maxHeartbeats 4000000 in
theorem zX_ValueForm_goes_w {Z : zx_Z} (C : zx_ok zX_sd Z cX8_goes 2 RX8 0 0) {r : Int32} (p1 : Int32) (s : zx_S) (hr : zx_rI zX_sd Z cX8_goes 2 .boolean r s) (h : zX_ValueForm_goes p1 s = some r) : zW zX_sd Z 2 0 [(0, .ref (zz_d Z 44)), (1, .int p1)] [] s := by
  unfold zX_ValueForm_goes at h
  refine zr_aload_n C dX8_goes_0 (q := 1) rfl 0 rfl rfl ?_
  refine zr_get C dX8_goes_1 (q := 4) zX_gX8_27_44 rfl ?_
  refine zr_ifnullN (q := 23) C dX8_goes_4 (by decide) ?_
  refine zr_iconst C dX8_goes_23 (q := 24) (v := (0 : Int32)) (by decide) rfl ?_
  exact zr_retZR dX8_goes_24 (Or.inl rfl) h hr
theorem zX_ValueForm_goes_met {l : Launch} {D : va_G} {cz : ClassId × ClassId} {ad : Nat → Nat} (hS : zx_So zX_sd) (hi : zx_I zX_sd ad) {p1 : Int32} {s : zx_S} {v : Int32} (h : zX_ValueForm_goes p1 s = some v) : zx_MI zX_sd l D cz ad yX8_goes cX8_goes 2 .boolean 0 0 [.ref (ad 44), .int p1] s v s := zx_metI hS hi (by decide +kernel) rfl (Nat.le_of_ble_eq_true rfl) (fun Z e1 e2 e3 e4 C hr => by subst e1 e2 e3 e4; exact zX_ValueForm_goes_w C p1 s hr h)
set_option maxRecDepth 100000 in
set_option maxHeartbeats 4000000 in
theorem zX_Graph_placeIn_w {Z : zx_Z} (C : zx_ok zX_sd Z cX2_placeIn 2 RX2 1 20) {r : Int32} (p0 p1 : Int32) (s : zx_S) (hr : zx_rI zX_sd Z cX2_placeIn 2 .int r s) (h : zX_Graph_placeIn p0 p1 s = some r) : zW zX_sd Z 2 0 [(0, .int p0), (1, .int p1)] [] s := by
  unfold zX_Graph_placeIn at h
  refine zr_iload_n C dX2_placeIn_0 (q := 1) rfl 0 rfl rfl ?_
  refine zr_iconst C dX2_placeIn_1 (q := 2) (v := (1 : Int32)) (by decide) rfl ?_
  refine zr_iload_n C dX2_placeIn_2 (q := 3) rfl 1 rfl rfl ?_
  refine zr_ishl C dX2_placeIn_3 (q := 4) rfl ?_
  refine zr_iconst C dX2_placeIn_4 (q := 5) (v := (1 : Int32)) (by decide) rfl ?_
  refine zr_isub C dX2_placeIn_5 (q := 6) rfl ?_
  refine zr_iand C dX2_placeIn_6 (q := 7) rfl ?_
  obtain ⟨r1, hc_7, h⟩ := zx_b1_so h
  refine zr_csI (q := 10) C (As := [.int (p0 &&& (((1 : Int32) <<< (p1 &&& 31)) - (1 : Int32)))]) (rest := []) dX2_placeIn_7 (zX_Integer_bitCount_met C.2.2.2.2.1 C.2.2.2.1 hc_7) zX_sX2_34 ⟨by decide, by decide⟩ rfl (Nat.le_of_ble_eq_true rfl) rfl rfl ?_
  exact zr_retR dX2_placeIn_10 h hr
theorem zX_Graph_placeIn_met {l : Launch} {D : va_G} {cz : ClassId × ClassId} {ad : Nat → Nat} (hS : zx_So zX_sd) (hi : zx_I zX_sd ad) {p0 p1 : Int32} {s : zx_S} {v : Int32} (h : zX_Graph_placeIn p0 p1 s = some v) : zx_MI zX_sd l D cz ad yX2_placeIn cX2_placeIn 2 .int 1 20 [.int p0, .int p1] s v s := zx_metI hS hi (by decide +kernel) rfl (Nat.le_of_ble_eq_true rfl) (fun Z e1 e2 e3 e4 C hr => by subst e1 e2 e3 e4; exact zX_Graph_placeIn_w C p0 p1 s hr h)
set_option maxRecDepth 100000 in
set_option maxHeartbeats 4000000 in
theorem zX_ValueForm_begin_L56_w {Z : zx_Z} (C : zx_ok zX_sd Z cX8_begin 8 RX8 2 41) {r : zx_S} (v3 v4 v6 : Int32) {k116 : zx_S → Option zx_S} (hr : zx_rV zX_sd Z cX8_begin 8 r) (h116 : ∀ (s1 : zx_S), k116 s1 = some r → zW zX_sd Z 8 116 [(0, .ref (zz_d Z 44)), (3, .int v3), (4, .int v4)] [] s1) : ∀ (n : Nat) (v7 : Int32) (s : zx_S), zX_ValueForm_begin_L56 v3 v4 v6 k116 n v7 s = some r → zW zX_sd Z 8 56 [(0, .ref (zz_d Z 44)), (3, .int v3), (4, .int v4), (6, .int v6), (7, .int v7)] [] s := by
  intro n
  induction n with
  | zero => intro v7 s h; unfold zX_ValueForm_begin_L56 at h; cases h
  | succ n ih =>
    intro v7 s h
    unfold zX_ValueForm_begin_L56 at h
    refine zr_iload C dX8_begin_56 (q := 58) 4 rfl rfl ?_
    refine zr_iload_n C dX8_begin_58 (q := 59) rfl 1 rfl rfl ?_
    refine zr_icmp_ge (tgt := 116) (q := 62) C dX8_begin_59 h (by decide) rfl (fun h => ?_) (fun h => ?_)
    · skip
      exact zr_sub [0, 1, 2] rfl (h116 s h)
    · skip
      refine zr_aload_n C dX8_begin_62 (q := 63) rfl 0 rfl rfl ?_
      refine zr_iload C dX8_begin_63 (q := 65) 2 rfl rfl ?_
      refine zr_iload C dX8_begin_65 (q := 67) 4 rfl rfl ?_
      refine zr_iadd C dX8_begin_67 (q := 68) rfl ?_
      obtain ⟨r4, hc_68, h⟩ := zx_b1_so h
      refine zr_cvI (q := 71) C (As := [.int (v4 + v7)]) (k := 44) (rest := []) dX8_begin_68 (zX_ValueForm_goes_met C.2.2.2.2.1 C.2.2.2.1 hc_68) zX_vX8_66 zX_o44 ⟨by decide, by decide⟩ rfl (Nat.le_of_ble_eq_true rfl) rfl rfl ?_
      refine zr_if_ne (tgt := 110) (q := 74) C dX8_begin_71 h (by decide) rfl (fun h => ?_) (fun h => ?_)
      · skip
        refine zr_iinc C dX8_begin_110 (q := 113) h (by decide) 4 rfl (by decide) (lw := fun v7_8 => [(7, .int v7_8), (0, .ref (zz_d Z 44)), (3, .int v3), (4, .int v4), (6, .int v6)]) (fun _ => rfl) rfl (fun v7_8 h => ?_)
        refine zr_goto (q := 56) C dX8_begin_113 (by decide) ?_
        exact zr_sub [1, 2, 3, 4, 0] rfl (ih v7_8 s h)
      · skip
        refine zr_aload_n C dX8_begin_74 (q := 75) rfl 0 rfl rfl ?_
        refine zr_get C dX8_begin_75 (q := 78) zX_gX8_9_44 rfl ?_
        refine zr_iload C dX8_begin_78 (q := 80) 4 rfl rfl ?_
        refine zr_aload_n C dX8_begin_80 (q := 81) rfl 0 rfl rfl ?_
        refine zr_get C dX8_begin_81 (q := 84) zX_gX8_70_44 rfl ?_
        refine zr_aload_n C dX8_begin_84 (q := 85) rfl 0 rfl rfl ?_
        refine zr_get C dX8_begin_85 (q := 88) zX_gX8_40_44 rfl ?_
        refine zr_get C dX8_begin_88 (q := 91) zX_gX8_73_24 rfl ?_
        refine zr_aload_n C dX8_begin_91 (q := 92) rfl 0 rfl rfl ?_
        refine zr_get C dX8_begin_92 (q := 95) zX_gX8_23_44 rfl ?_
        refine zr_get C dX8_begin_95 (q := 98) zX_gX8_78_18 rfl ?_
        refine zr_iload C dX8_begin_98 (q := 100) 2 rfl rfl ?_
        refine zr_iload C dX8_begin_100 (q := 102) 4 rfl rfl ?_
        refine zr_iadd C dX8_begin_102 (q := 103) rfl ?_
        obtain ⟨hin_103, h⟩ := zx_ck_so h
        refine zr_iald C dX8_begin_103 (q := 104) zX_a23 hin_103 rfl ?_
        refine zr_iload C dX8_begin_104 (q := 106) 3 rfl rfl ?_
        refine zr_iadd C dX8_begin_106 (q := 107) rfl ?_
        obtain ⟨hin_107, h⟩ := zx_ck_so h
        refine zr_iald C dX8_begin_107 (q := 108) zX_a25 hin_107 rfl ?_
        obtain ⟨hin_108, h⟩ := zx_ck_so h
        refine zr_iald C dX8_begin_108 (q := 109) zX_a45 hin_108 rfl ?_
        refine zr_top h (fun x5 h => ?_)
        obtain ⟨hin_109, h⟩ := zx_ck_so h
        refine zr_iast C dX8_begin_109 (q := 110) zX_a46 hin_109 rfl ?_
        refine zr_ls h (fun s6 h => ?_)
        refine zr_iinc C dX8_begin_110 (q := 113) h (by decide) 4 rfl (by decide) (lw := fun v7_7 => [(7, .int v7_7), (0, .ref (zz_d Z 44)), (3, .int v3), (4, .int v4), (6, .int v6)]) (fun _ => rfl) rfl (fun v7_7 h => ?_)
        refine zr_goto (q := 56) C dX8_begin_113 (by decide) ?_
        exact zr_sub [1, 2, 3, 4, 0] rfl (ih v7_7 s6 h)
set_option maxRecDepth 100000 in
set_option maxHeartbeats 4000000 in
theorem zX_ValueForm_begin_L119_w {Z : zx_Z} (C : zx_ok zX_sd Z cX8_begin 8 RX8 2 41) {r : zx_S} (v3 v4 : Int32) {k160 : zx_S → Option zx_S} (hr : zx_rV zX_sd Z cX8_begin 8 r) (h160 : ∀ (s1 : zx_S), k160 s1 = some r → zW zX_sd Z 8 160 [] [] s1) : ∀ (n : Nat) (v7 : Int32) (s : zx_S), zX_ValueForm_begin_L119 v3 v4 k160 n v7 s = some r → zW zX_sd Z 8 119 [(0, .ref (zz_d Z 44)), (3, .int v3), (4, .int v4), (7, .int v7)] [] s := by
  intro n
  induction n with
  | zero => intro v7 s h; unfold zX_ValueForm_begin_L119 at h; cases h
  | succ n ih =>
    intro v7 s h
    unfold zX_ValueForm_begin_L119 at h
    refine zr_iload C dX8_begin_119 (q := 121) 3 rfl rfl ?_
    refine zr_iload_n C dX8_begin_121 (q := 122) rfl 1 rfl rfl ?_
    refine zr_icmp_ge (tgt := 160) (q := 125) C dX8_begin_122 h (by decide) rfl (fun h => ?_) (fun h => ?_)
    · skip
      exact zr_sub [] rfl (h160 s h)
    · skip
      refine zr_aload_n C dX8_begin_125 (q := 126) rfl 0 rfl rfl ?_
      refine zr_iload C dX8_begin_126 (q := 128) 2 rfl rfl ?_
      refine zr_iload C dX8_begin_128 (q := 130) 3 rfl rfl ?_
      refine zr_iadd C dX8_begin_130 (q := 131) rfl ?_
      obtain ⟨r10, hc_131, h⟩ := zx_b1_so h
      refine zr_cvI (q := 134) C (As := [.int (v4 + v7)]) (k := 44) (rest := []) dX8_begin_131 (zX_ValueForm_goes_met C.2.2.2.2.1 C.2.2.2.1 hc_131) zX_vX8_66 zX_o44 ⟨by decide, by decide⟩ rfl (Nat.le_of_ble_eq_true rfl) rfl rfl ?_
      refine zr_if_ne (tgt := 154) (q := 137) C dX8_begin_134 h (by decide) rfl (fun h => ?_) (fun h => ?_)
      · skip
        refine zr_iinc C dX8_begin_154 (q := 157) h (by decide) 3 rfl (by decide) (lw := fun v7_14 => [(7, .int v7_14), (0, .ref (zz_d Z 44)), (3, .int v3), (4, .int v4)]) (fun _ => rfl) rfl (fun v7_14 h => ?_)
        refine zr_goto (q := 119) C dX8_begin_157 (by decide) ?_
        exact zr_sub [1, 2, 3, 0] rfl (ih v7_14 s h)
      · skip
        refine zr_aload_n C dX8_begin_137 (q := 138) rfl 0 rfl rfl ?_
        refine zr_get C dX8_begin_138 (q := 141) zX_gX8_70_44 rfl ?_
        refine zr_iload C dX8_begin_141 (q := 143) 2 rfl rfl ?_
        refine zr_iload C dX8_begin_143 (q := 145) 3 rfl rfl ?_
        refine zr_iadd C dX8_begin_145 (q := 146) rfl ?_
        refine zr_aload_n C dX8_begin_146 (q := 147) rfl 0 rfl rfl ?_
        refine zr_get C dX8_begin_147 (q := 150) zX_gX8_9_44 rfl ?_
        refine zr_iload C dX8_begin_150 (q := 152) 3 rfl rfl ?_
        obtain ⟨hin_152, h⟩ := zx_ck_so h
        refine zr_iald C dX8_begin_152 (q := 153) zX_a46 hin_152 rfl ?_
        refine zr_top h (fun x11 h => ?_)
        obtain ⟨hin_153, h⟩ := zx_ck_so h
        refine zr_iast C dX8_begin_153 (q := 154) zX_a45 hin_153 rfl ?_
        refine zr_ls h (fun s12 h => ?_)
        refine zr_iinc C dX8_begin_154 (q := 157) h (by decide) 3 rfl (by decide) (lw := fun v7_13 => [(7, .int v7_13), (0, .ref (zz_d Z 44)), (3, .int v3), (4, .int v4)]) (fun _ => rfl) rfl (fun v7_13 h => ?_)
        refine zr_goto (q := 119) C dX8_begin_157 (by decide) ?_
        exact zr_sub [1, 2, 3, 0] rfl (ih v7_13 s12 h)
set_option maxRecDepth 100000 in
set_option maxHeartbeats 4000000 in
theorem zX_ValueForm_begin_J51_w {Z : zx_Z} (C : zx_ok zX_sd Z cX8_begin 8 RX8 2 41) {r : zx_S} (v3 v4 t0 : Int32) (s : zx_S) (hr : zx_rV zX_sd Z cX8_begin 8 r) (h : zX_ValueForm_begin_J51 v3 v4 t0 s = some r) : zW zX_sd Z 8 51 [(0, .ref (zz_d Z 44)), (3, .int v3), (4, .int v4)] [.int t0] s := by
  unfold zX_ValueForm_begin_J51 at h
  refine zr_istore C dX8_begin_51 (q := 53) (by decide) (lv' := [(6, .int t0), (0, .ref (zz_d Z 44)), (3, .int v3), (4, .int v4)]) rfl rfl ?_
  refine zr_iconst C dX8_begin_53 (q := 54) (v := (0 : Int32)) (by decide) rfl ?_
  refine zr_istore C dX8_begin_54 (q := 56) (by decide) (lv' := [(7, .int (0 : Int32)), (6, .int t0), (0, .ref (zz_d Z 44)), (3, .int v3), (4, .int v4)]) rfl rfl ?_
  refine zr_sub [2, 3, 4, 1, 0] rfl (zX_ValueForm_begin_L56_w C v3 v4 t0 hr (fun s9 h => ?_) 10000 (0 : Int32) s h)
  · skip
    refine zr_iconst C dX8_begin_116 (q := 117) (v := (0 : Int32)) (by decide) rfl ?_
    refine zr_istore C dX8_begin_117 (q := 119) (by decide) (lv' := [(7, .int (0 : Int32)), (0, .ref (zz_d Z 44)), (3, .int v3), (4, .int v4)]) rfl rfl ?_
    refine zr_sub [1, 2, 3, 0] rfl (zX_ValueForm_begin_L119_w C v3 v4 hr (fun s15 h => ?_) 10000 (0 : Int32) s9 h)
    · skip
      exact zr_retV dX8_begin_160 h hr
set_option maxRecDepth 100000 in
set_option maxHeartbeats 4000000 in
theorem zX_ValueForm_begin_w {Z : zx_Z} (C : zx_ok zX_sd Z cX8_begin 8 RX8 2 41) {r : zx_S} (p1 p2 : Int32) (s : zx_S) (hr : zx_rV zX_sd Z cX8_begin 8 r) (h : zX_ValueForm_begin p1 p2 s = some r) : zW zX_sd Z 8 0 [(0, .ref (zz_d Z 44)), (1, .int p1), (2, .int p2)] [] s := by
  unfold zX_ValueForm_begin at h
  refine zr_aload_n C dX8_begin_0 (q := 1) rfl 0 rfl rfl ?_
  refine zr_get C dX8_begin_1 (q := 4) zX_gX8_23_44 rfl ?_
  refine zr_get C dX8_begin_4 (q := 7) zX_gX8_45_18 rfl ?_
  refine zr_iload_n C dX8_begin_7 (q := 8) rfl 2 rfl rfl ?_
  obtain ⟨hin_8, h⟩ := zx_ck_so h
  refine zr_iald C dX8_begin_8 (q := 9) zX_a30 hin_8 rfl ?_
  refine zr_top h (fun v3_1 h => ?_)
  refine zr_istore_n C dX8_begin_9 (q := 10) rfl (by decide) (lv' := [(3, .int v3_1), (0, .ref (zz_d Z 44)), (1, .int p1), (2, .int p2)]) rfl rfl ?_
  refine zr_aload_n C dX8_begin_10 (q := 11) rfl 1 rfl rfl ?_
  refine zr_get C dX8_begin_11 (q := 14) zX_gX8_23_44 rfl ?_
  refine zr_get C dX8_begin_14 (q := 17) zX_gX8_48_18 rfl ?_
  refine zr_iload_n C dX8_begin_17 (q := 18) rfl 3 rfl rfl ?_
  obtain ⟨hin_18, h⟩ := zx_ck_so h
  refine zr_iald C dX8_begin_18 (q := 19) zX_a29 hin_18 rfl ?_
  refine zr_top h (fun v4_2 h => ?_)
  refine zr_istore C dX8_begin_19 (q := 21) (by decide) (lv' := [(4, .int v4_2), (3, .int v3_1), (0, .ref (zz_d Z 44)), (1, .int p1), (2, .int p2)]) rfl rfl ?_
  refine zr_aload_n C dX8_begin_21 (q := 22) rfl 2 rfl rfl ?_
  refine zr_get C dX8_begin_22 (q := 25) zX_gX8_19_44 rfl ?_
  refine zr_get C dX8_begin_25 (q := 28) zX_gX8_51_11 rfl ?_
  refine zr_iload_n C dX8_begin_28 (q := 29) rfl 4 rfl rfl ?_
  obtain ⟨hin_29, h⟩ := zx_ck_so h
  refine zr_iald C dX8_begin_29 (q := 30) zX_a13 hin_29 rfl ?_
  refine zr_top h (fun v5_3 h => ?_)
  refine zr_istore C dX8_begin_30 (q := 32) (by decide) (lv' := [(5, .int v5_3), (4, .int v4_2), (3, .int v3_1), (0, .ref (zz_d Z 44)), (1, .int p1), (2, .int p2)]) rfl rfl ?_
  refine zr_iload_n C dX8_begin_32 (q := 33) rfl 4 rfl rfl ?_
  refine zr_iconst C dX8_begin_33 (q := 34) (v := (-1 : Int32)) (by decide) rfl ?_
  refine zr_icmp_ne (tgt := 45) (q := 37) C dX8_begin_34 h (by decide) rfl (fun h => ?_) (fun h => ?_)
  · skip
    refine zr_iload C dX8_begin_45 (q := 47) 0 rfl rfl ?_
    refine zr_iload_n C dX8_begin_47 (q := 48) rfl 4 rfl rfl ?_
    obtain ⟨r17, hc_48, h⟩ := zx_b1_so h
    refine zr_csI (q := 51) C (As := [.int v5_3, .int p1]) (rest := []) dX8_begin_48 (zX_Graph_placeIn_met C.2.2.2.2.1 C.2.2.2.1 hc_48) zX_sX8_62 ⟨by decide, by decide⟩ rfl (Nat.le_of_ble_eq_true rfl) rfl rfl ?_
    exact zr_sub [3, 2, 1] rfl (zX_ValueForm_begin_J51_w C v3_1 v4_2 r17 s hr h)
  · skip
    refine zr_iload C dX8_begin_37 (q := 39) 0 rfl rfl ?_
    obtain ⟨r16, hc_39, h⟩ := zx_b1_so h
    refine zr_csI (q := 42) C (As := [.int v5_3]) (rest := []) dX8_begin_39 (zX_Integer_bitCount_met C.2.2.2.2.1 C.2.2.2.1 hc_39) zX_sX8_56 ⟨by decide, by decide⟩ rfl (Nat.le_of_ble_eq_true rfl) rfl rfl ?_
    refine zr_goto (q := 51) C dX8_begin_42 (by decide) ?_
    exact zr_sub [3, 2, 1] rfl (zX_ValueForm_begin_J51_w C v3_1 v4_2 r16 s hr h)
theorem zX_ValueForm_begin_met {l : Launch} {D : va_G} {cz : ClassId × ClassId} {ad : Nat → Nat} (hS : zx_So zX_sd) (hi : zx_I zX_sd ad) {p1 p2 : Int32} {s : zx_S} {s1 : zx_S} (h : zX_ValueForm_begin p1 p2 s = some s1) : zx_MV zX_sd l D cz ad yX8_begin cX8_begin 8 2 41 [.ref (ad 44), .int p1, .int p2] s s1 := zx_metV hS hi (by decide +kernel) rfl (Nat.le_of_ble_eq_true rfl) (fun Z e1 e2 e3 e4 C hr => by subst e1 e2 e3 e4; exact zX_ValueForm_begin_w C p1 p2 s hr h)
set_option maxRecDepth 100000 in
set_option maxHeartbeats 4000000 in
theorem zX_ValueForm_keeps_w {Z : zx_Z} (C : zx_ok zX_sd Z cX8_keeps 3 RX8 1 21) {r : Int32} (p1 : Int32) (s : zx_S) (hr : zx_rI zX_sd Z cX8_keeps 3 .boolean r s) (h : zX_ValueForm_keeps p1 s = some r) : zW zX_sd Z 3 0 [(0, .ref (zz_d Z 44)), (1, .int p1)] [] s := by
  unfold zX_ValueForm_keeps at h
  refine zr_aload_n C dX8_keeps_0 (q := 1) rfl 0 rfl rfl ?_
  refine zr_get C dX8_keeps_1 (q := 4) zX_gX8_23_44 rfl ?_
  refine zr_get C dX8_keeps_4 (q := 7) zX_gX8_81_18 rfl ?_
  refine zr_iload_n C dX8_keeps_7 (q := 8) rfl 1 rfl rfl ?_
  obtain ⟨hin_8, h⟩ := zx_ck_so h
  refine zr_iald C dX8_keeps_8 (q := 9) zX_a28 hin_8 rfl ?_
  refine zr_top h (fun v2_1 h => ?_)
  refine zr_istore_n C dX8_keeps_9 (q := 10) rfl (by decide) (lv' := [(2, .int v2_1), (0, .ref (zz_d Z 44)), (1, .int p1)]) rfl rfl ?_
  refine zr_iload_n C dX8_keeps_10 (q := 11) rfl 0 rfl rfl ?_
  refine zr_iconst C dX8_keeps_11 (q := 12) (v := (-1 : Int32)) (by decide) rfl ?_
  refine zr_icmp_ne (tgt := 37) (q := 15) C dX8_keeps_12 h (by decide) rfl (fun h => ?_) (fun h => ?_)
  · skip
    refine zr_aload_n C dX8_keeps_37 (q := 38) rfl 1 rfl rfl ?_
    refine zr_iload_n C dX8_keeps_38 (q := 39) rfl 0 rfl rfl ?_
    obtain ⟨r2, hc_39, h⟩ := zx_b1_so h
    refine zr_cvI (q := 42) C (As := [.int v2_1]) (k := 44) (rest := []) dX8_keeps_39 (zX_ValueForm_goes_met C.2.2.2.2.1 C.2.2.2.1 hc_39) zX_vX8_66 zX_o44 ⟨by decide, by decide⟩ rfl (Nat.le_of_ble_eq_true rfl) rfl rfl ?_
    refine zr_if_ne (tgt := 49) (q := 45) C dX8_keeps_42 h (by decide) rfl (fun h => ?_) (fun h => ?_)
    · skip
      refine zr_iconst C dX8_keeps_49 (q := 50) (v := (0 : Int32)) (by decide) rfl ?_
      exact zr_retZR dX8_keeps_50 (Or.inl rfl) h hr
    · skip
      refine zr_iconst C dX8_keeps_45 (q := 46) (v := (1 : Int32)) (by decide) rfl ?_
      refine zr_goto (q := 50) C dX8_keeps_46 (by decide) ?_
      exact zr_retZR dX8_keeps_50 (Or.inr rfl) h hr
  · skip
    refine zr_aload_n C dX8_keeps_15 (q := 16) rfl 1 rfl rfl ?_
    refine zr_get C dX8_keeps_16 (q := 19) zX_gX8_15_44 rfl ?_
    refine zr_get C dX8_keeps_19 (q := 22) zX_gX8_84_1 rfl ?_
    refine zr_iload_n C dX8_keeps_22 (q := 23) rfl 2 rfl rfl ?_
    obtain ⟨hin_23, h⟩ := zx_ck_so h
    refine zr_iald C dX8_keeps_23 (q := 24) zX_a3 hin_23 rfl ?_
    refine zr_bipush C dX8_keeps_24 (q := 26) (v := (14 : Int32)) (by decide) rfl ?_
    refine zr_icmp_ne (tgt := 33) (q := 29) C dX8_keeps_26 h (by decide) rfl (fun h => ?_) (fun h => ?_)
    · skip
      refine zr_iconst C dX8_keeps_33 (q := 34) (v := (0 : Int32)) (by decide) rfl ?_
      refine zr_goto (q := 50) C dX8_keeps_34 (by decide) ?_
      exact zr_retZR dX8_keeps_50 (Or.inl rfl) h hr
    · skip
      refine zr_iconst C dX8_keeps_29 (q := 30) (v := (1 : Int32)) (by decide) rfl ?_
      refine zr_goto (q := 50) C dX8_keeps_30 (by decide) ?_
      exact zr_retZR dX8_keeps_50 (Or.inr rfl) h hr
theorem zX_ValueForm_keeps_met {l : Launch} {D : va_G} {cz : ClassId × ClassId} {ad : Nat → Nat} (hS : zx_So zX_sd) (hi : zx_I zX_sd ad) {p1 : Int32} {s : zx_S} {v : Int32} (h : zX_ValueForm_keeps p1 s = some v) : zx_MI zX_sd l D cz ad yX8_keeps cX8_keeps 3 .boolean 1 21 [.ref (ad 44), .int p1] s v s := zx_metI hS hi (by decide +kernel) rfl (Nat.le_of_ble_eq_true rfl) (fun Z e1 e2 e3 e4 C hr => by subst e1 e2 e3 e4; exact zX_ValueForm_keeps_w C p1 s hr h)
set_option maxRecDepth 100000 in
set_option maxHeartbeats 4000000 in
theorem zX_ValueForm_target_w {Z : zx_Z} (C : zx_ok zX_sd Z cX8_target 2 RX8 0 0) {r : Int32} (p1 : Int32) (s : zx_S) (hr : zx_rI zX_sd Z cX8_target 2 .int r s) (h : zX_ValueForm_target p1 s = some r) : zW zX_sd Z 2 0 [(0, .ref (zz_d Z 44)), (1, .int p1)] [] s := by
  unfold zX_ValueForm_target at h
  refine zr_aload_n C dX8_target_0 (q := 1) rfl 0 rfl rfl ?_
  refine zr_get C dX8_target_1 (q := 4) zX_gX8_23_44 rfl ?_
  refine zr_get C dX8_target_4 (q := 7) zX_gX8_81_18 rfl ?_
  refine zr_iload_n C dX8_target_7 (q := 8) rfl 1 rfl rfl ?_
  obtain ⟨hin_8, h⟩ := zx_ck_so h
  refine zr_iald C dX8_target_8 (q := 9) zX_a28 hin_8 rfl ?_
  exact zr_retR dX8_target_9 h hr
theorem zX_ValueForm_target_met {l : Launch} {D : va_G} {cz : ClassId × ClassId} {ad : Nat → Nat} (hS : zx_So zX_sd) (hi : zx_I zX_sd ad) {p1 : Int32} {s : zx_S} {v : Int32} (h : zX_ValueForm_target p1 s = some v) : zx_MI zX_sd l D cz ad yX8_target cX8_target 2 .int 0 0 [.ref (ad 44), .int p1] s v s := zx_metI hS hi (by decide +kernel) rfl (Nat.le_of_ble_eq_true rfl) (fun Z e1 e2 e3 e4 C hr => by subst e1 e2 e3 e4; exact zX_ValueForm_target_w C p1 s hr h)
