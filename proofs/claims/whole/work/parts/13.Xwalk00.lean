set_option maxRecDepth 100000 in
set_option maxHeartbeats 4000000 in
theorem zX_ValueBench_block_w {Z : zx_Z} (C : zx_ok zX_sd Z cX10_block 1 RX10 0 0) {r : Int32 × zx_S} (s : zx_S) (hr : zx_rI zX_sd Z cX10_block 1 .int r.1 r.2) (h : zX_ValueBench_block s = some r) : zW zX_sd Z 1 0 [(0, .ref (zz_d Z 0))] [] s := by
  unfold zX_ValueBench_block at h
  refine zr_aload_n C dX10_block_0 (q := 1) rfl 0 rfl rfl ?_
  refine zr_get C dX10_block_1 (q := 4) zX_gX10_12_0 rfl ?_
  refine zr_get C dX10_block_4 (q := 7) zX_gX10_75_1 rfl ?_
  refine zr_bipush C dX10_block_7 (q := 9) (v := (16 : Int32)) (by decide) rfl ?_
  refine zr_icmp_lt (tgt := 14) (q := 12) C dX10_block_9 h (by decide) rfl (fun h => ?_) (fun h => ?_)
  · skip
    refine zr_aload_n C dX10_block_14 (q := 15) rfl 0 rfl rfl ?_
    refine zr_iconst C dX10_block_15 (q := 16) (v := (1 : Int32)) (by decide) rfl ?_
    refine zr_put C dX10_block_16 (q := 19) zX_pX10_71_0 (by decide) (by decide) rfl ?_
    refine zr_ls h (fun s1 h => ?_)
    refine zr_aload_n C dX10_block_19 (q := 20) rfl 0 rfl rfl ?_
    refine zr_get C dX10_block_20 (q := 23) zX_gX10_12_0 rfl ?_
    refine zr_dup C dX10_block_23 (q := 24) rfl rfl ?_
    refine zr_get C dX10_block_24 (q := 27) zX_gX10_75_1 rfl ?_
    refine zr_iconst C dX10_block_27 (q := 28) (v := (1 : Int32)) (by decide) rfl ?_
    refine zr_iadd C dX10_block_28 (q := 29) rfl ?_
    refine zr_top h (fun x2 h => ?_)
    refine zr_put C dX10_block_29 (q := 32) zX_pX10_75_1 rfl rfl rfl ?_
    refine zr_ls h (fun s3 h => ?_)
    refine zr_aload_n C dX10_block_32 (q := 33) rfl 0 rfl rfl ?_
    refine zr_get C dX10_block_33 (q := 36) zX_gX10_12_0 rfl ?_
    refine zr_get C dX10_block_36 (q := 39) zX_gX10_75_1 rfl ?_
    refine zr_iconst C dX10_block_39 (q := 40) (v := (1 : Int32)) (by decide) rfl ?_
    refine zr_isub C dX10_block_40 (q := 41) rfl ?_
    exact zr_retI dX10_block_41 h hr
  · skip
    refine zr_iconst C dX10_block_12 (q := 13) (v := (-1 : Int32)) (by decide) rfl ?_
    exact zr_retI dX10_block_13 h hr
theorem zX_ValueBench_block_met {l : Launch} {D : va_G} {cz : ClassId × ClassId} {ad : Nat → Nat} (hS : zx_So zX_sd) (hi : zx_I zX_sd ad) {s : zx_S} {v : Int32} {s1 : zx_S} (h : zX_ValueBench_block s = some (v, s1)) : zx_MI zX_sd l D cz ad yX10_block cX10_block 1 .int 0 0 [.ref (ad 0)] s v s1 := zx_metI hS hi (by decide +kernel) rfl (Nat.le_of_ble_eq_true rfl) (fun Z e1 e2 e3 e4 C hr => by subst e1 e2 e3 e4; exact zX_ValueBench_block_w (r := (v, s1)) C s hr h)
set_option maxRecDepth 100000 in
set_option maxHeartbeats 4000000 in
theorem zX_Program_has_w {Z : zx_Z} (C : zx_ok zX_sd Z cX5_has 2 RX5 0 0) {r : Int32} (p1 : Int32) (s : zx_S) (hr : zx_rI zX_sd Z cX5_has 2 .boolean r s) (h : zX_Program_has p1 s = some r) : zW zX_sd Z 2 0 [(0, .ref (zz_d Z 1)), (1, .int p1)] [] s := by
  unfold zX_Program_has at h
  refine zr_iload_n C dX5_has_0 (q := 1) rfl 1 rfl rfl ?_
  refine zr_if_lt (tgt := 16) (q := 4) C dX5_has_1 h (by decide) rfl (fun h => ?_) (fun h => ?_)
  · skip
    refine zr_iconst C dX5_has_16 (q := 17) (v := (0 : Int32)) (by decide) rfl ?_
    exact zr_retZR dX5_has_17 (Or.inl rfl) h hr
  · skip
    refine zr_iload_n C dX5_has_4 (q := 5) rfl 1 rfl rfl ?_
    refine zr_aload_n C dX5_has_5 (q := 6) rfl 0 rfl rfl ?_
    refine zr_get C dX5_has_6 (q := 9) zX_gX5_46_1 rfl ?_
    refine zr_icmp_ge (tgt := 16) (q := 12) C dX5_has_9 h (by decide) rfl (fun h => ?_) (fun h => ?_)
    · skip
      refine zr_iconst C dX5_has_16 (q := 17) (v := (0 : Int32)) (by decide) rfl ?_
      exact zr_retZR dX5_has_17 (Or.inl rfl) h hr
    · skip
      refine zr_iconst C dX5_has_12 (q := 13) (v := (1 : Int32)) (by decide) rfl ?_
      refine zr_goto (q := 17) C dX5_has_13 (by decide) ?_
      exact zr_retZR dX5_has_17 (Or.inr rfl) h hr
theorem zX_Program_has_met {l : Launch} {D : va_G} {cz : ClassId × ClassId} {ad : Nat → Nat} (hS : zx_So zX_sd) (hi : zx_I zX_sd ad) {p1 : Int32} {s : zx_S} {v : Int32} (h : zX_Program_has p1 s = some v) : zx_MI zX_sd l D cz ad yX5_has cX5_has 2 .boolean 0 0 [.ref (ad 1), .int p1] s v s := zx_metI hS hi (by decide +kernel) rfl (Nat.le_of_ble_eq_true rfl) (fun Z e1 e2 e3 e4 C hr => by subst e1 e2 e3 e4; exact zX_Program_has_w C p1 s hr h)
set_option maxRecDepth 100000 in
set_option maxHeartbeats 4000000 in
theorem zX_Program_instructions_w {Z : zx_Z} (C : zx_ok zX_sd Z cX5_instructions 1 RX5 0 0) {r : Int32} (s : zx_S) (hr : zx_rI zX_sd Z cX5_instructions 1 .int r s) (h : zX_Program_instructions s = some r) : zW zX_sd Z 1 0 [(0, .ref (zz_d Z 1))] [] s := by
  unfold zX_Program_instructions at h
  refine zr_aload_n C dX5_instructions_0 (q := 1) rfl 0 rfl rfl ?_
  refine zr_get C dX5_instructions_1 (q := 4) zX_gX5_9_1 rfl ?_
  refine zr_bipush C dX5_instructions_4 (q := 6) (v := (16 : Int32)) (by decide) rfl ?_
  obtain ⟨hin_6, h⟩ := zx_ck_so h
  refine zr_iald C dX5_instructions_6 (q := 7) zX_a2 hin_6 rfl ?_
  exact zr_retR dX5_instructions_7 h hr
theorem zX_Program_instructions_met {l : Launch} {D : va_G} {cz : ClassId × ClassId} {ad : Nat → Nat} (hS : zx_So zX_sd) (hi : zx_I zX_sd ad) {s : zx_S} {v : Int32} (h : zX_Program_instructions s = some v) : zx_MI zX_sd l D cz ad yX5_instructions cX5_instructions 1 .int 0 0 [.ref (ad 1)] s v s := zx_metI hS hi (by decide +kernel) rfl (Nat.le_of_ble_eq_true rfl) (fun Z e1 e2 e3 e4 C hr => by subst e1 e2 e3 e4; exact zX_Program_instructions_w C s hr h)
set_option maxRecDepth 100000 in
set_option maxHeartbeats 4000000 in
theorem zX_Program_isVariable_w {Z : zx_Z} (C : zx_ok zX_sd Z cX5_isVariable 1 RX5 0 0) {r : Int32} (p0 : Int32) (s : zx_S) (hr : zx_rI zX_sd Z cX5_isVariable 1 .boolean r s) (h : zX_Program_isVariable p0 s = some r) : zW zX_sd Z 1 0 [(0, .int p0)] [] s := by
  unfold zX_Program_isVariable at h
  refine zr_iload_n C dX5_isVariable_0 (q := 1) rfl 0 rfl rfl ?_
  refine zr_if_lt (tgt := 14) (q := 4) C dX5_isVariable_1 h (by decide) rfl (fun h => ?_) (fun h => ?_)
  · skip
    refine zr_iconst C dX5_isVariable_14 (q := 15) (v := (0 : Int32)) (by decide) rfl ?_
    exact zr_retZR dX5_isVariable_15 (Or.inl rfl) h hr
  · skip
    refine zr_iload_n C dX5_isVariable_4 (q := 5) rfl 0 rfl rfl ?_
    refine zr_bipush C dX5_isVariable_5 (q := 7) (v := (10 : Int32)) (by decide) rfl ?_
    refine zr_icmp_ge (tgt := 14) (q := 10) C dX5_isVariable_7 h (by decide) rfl (fun h => ?_) (fun h => ?_)
    · skip
      refine zr_iconst C dX5_isVariable_14 (q := 15) (v := (0 : Int32)) (by decide) rfl ?_
      exact zr_retZR dX5_isVariable_15 (Or.inl rfl) h hr
    · skip
      refine zr_iconst C dX5_isVariable_10 (q := 11) (v := (1 : Int32)) (by decide) rfl ?_
      refine zr_goto (q := 15) C dX5_isVariable_11 (by decide) ?_
      exact zr_retZR dX5_isVariable_15 (Or.inr rfl) h hr
theorem zX_Program_isVariable_met {l : Launch} {D : va_G} {cz : ClassId × ClassId} {ad : Nat → Nat} (hS : zx_So zX_sd) (hi : zx_I zX_sd ad) {p0 : Int32} {s : zx_S} {v : Int32} (h : zX_Program_isVariable p0 s = some v) : zx_MI zX_sd l D cz ad yX5_isVariable cX5_isVariable 1 .boolean 0 0 [.int p0] s v s := zx_metI hS hi (by decide +kernel) rfl (Nat.le_of_ble_eq_true rfl) (fun Z e1 e2 e3 e4 C hr => by subst e1 e2 e3 e4; exact zX_Program_isVariable_w C p0 s hr h)
set_option maxRecDepth 100000 in
set_option maxHeartbeats 4000000 in
theorem zX_Program_fits_w {Z : zx_Z} (C : zx_ok zX_sd Z cX5_fits 4 RX5 1 20) {r : Int32} (p0 p1 p2 p3 : Int32) (s : zx_S) (hr : zx_rI zX_sd Z cX5_fits 4 .boolean r s) (h : zX_Program_fits p0 p1 p2 p3 s = some r) : zW zX_sd Z 4 0 [(0, .int p0), (1, .int p1), (2, .int p2), (3, .int p3)] [] s := by
  unfold zX_Program_fits at h
  refine zr_iload_n C dX5_fits_0 (q := 1) rfl 0 rfl rfl ?_
  refine zr_if_lt (tgt := 17) (q := 4) C dX5_fits_1 h (by decide) rfl (fun h => ?_) (fun h => ?_)
  · skip
    refine zr_iconst C dX5_fits_17 (q := 18) (v := (0 : Int32)) (by decide) rfl ?_
    exact zr_retZR dX5_fits_18 (Or.inl rfl) h hr
  · skip
    refine zr_iload_n C dX5_fits_4 (q := 5) rfl 0 rfl rfl ?_
    refine zr_bipush C dX5_fits_5 (q := 7) (v := (14 : Int32)) (by decide) rfl ?_
    refine zr_icmp_gt (tgt := 17) (q := 10) C dX5_fits_7 h (by decide) rfl (fun h => ?_) (fun h => ?_)
    · skip
      refine zr_iconst C dX5_fits_17 (q := 18) (v := (0 : Int32)) (by decide) rfl ?_
      exact zr_retZR dX5_fits_18 (Or.inl rfl) h hr
    · skip
      refine zr_iload_n C dX5_fits_10 (q := 11) rfl 1 rfl rfl ?_
      obtain ⟨r1, hc_11, h⟩ := zx_b1_so h
      refine zr_csI (q := 14) C (As := [.int p1]) (rest := []) dX5_fits_11 (zX_Program_isVariable_met C.2.2.2.2.1 C.2.2.2.1 hc_11) zX_sX5_39 ⟨by decide, by decide⟩ rfl (Nat.le_of_ble_eq_true rfl) rfl rfl ?_
      refine zr_if_ne (tgt := 19) (q := 17) C dX5_fits_14 h (by decide) rfl (fun h => ?_) (fun h => ?_)
      · skip
        refine zr_iload_n C dX5_fits_19 (q := 20) rfl 0 rfl rfl ?_
        by_cases e0 : p0 = (0 : Int32)
        · rw [if_pos e0] at h
          refine zr_lookup (tgt := 64) (off := 44) C dX5_fits_20 (by decide) (by rw [e0] <;> exact rfl) (by decide) ?_
          refine zr_iconst C dX5_fits_64 (q := 65) (v := (1 : Int32)) (by decide) rfl ?_
          exact zr_retZR dX5_fits_65 (Or.inr rfl) h hr
        · rw [if_neg e0] at h
          by_cases e1 : p0 = (1 : Int32)
          · rw [if_pos e1] at h
            refine zr_lookup (tgt := 66) (off := 46) C dX5_fits_20 (by decide) (by rw [e1] <;> exact rfl) (by decide) ?_
            refine zr_iload_n C dX5_fits_66 (q := 67) rfl 2 rfl rfl ?_
            refine zr_if_lt (tgt := 79) (q := 70) C dX5_fits_67 h (by decide) rfl (fun h => ?_) (fun h => ?_)
            · skip
              refine zr_iconst C dX5_fits_79 (q := 80) (v := (0 : Int32)) (by decide) rfl ?_
              exact zr_retZR dX5_fits_80 (Or.inl rfl) h hr
            · skip
              refine zr_iload_n C dX5_fits_70 (q := 71) rfl 2 rfl rfl ?_
              refine zr_iconst C dX5_fits_71 (q := 72) (v := (4 : Int32)) (by decide) rfl ?_
              refine zr_icmp_ge (tgt := 79) (q := 75) C dX5_fits_72 h (by decide) rfl (fun h => ?_) (fun h => ?_)
              · skip
                refine zr_iconst C dX5_fits_79 (q := 80) (v := (0 : Int32)) (by decide) rfl ?_
                exact zr_retZR dX5_fits_80 (Or.inl rfl) h hr
              · skip
                refine zr_iconst C dX5_fits_75 (q := 76) (v := (1 : Int32)) (by decide) rfl ?_
                refine zr_goto (q := 80) C dX5_fits_76 (by decide) ?_
                exact zr_retZR dX5_fits_80 (Or.inr rfl) h hr
          · rw [if_neg e1] at h
            by_cases e2 : p0 = (2 : Int32)
            · rw [if_pos e2] at h
              refine zr_lookup (tgt := 81) (off := 61) C dX5_fits_20 (by decide) (by rw [e2] <;> exact rfl) (by decide) ?_
              refine zr_iload_n C dX5_fits_81 (q := 82) rfl 2 rfl rfl ?_
              obtain ⟨r4, hc_82, h⟩ := zx_b1_so h
              refine zr_csI (q := 85) C (As := [.int p2]) (rest := []) dX5_fits_82 (zX_Program_isVariable_met C.2.2.2.2.1 C.2.2.2.1 hc_82) zX_sX5_39 ⟨by decide, by decide⟩ rfl (Nat.le_of_ble_eq_true rfl) rfl rfl ?_
              obtain ⟨hb9, h⟩ := zx_zr_so h
              exact zr_retZR dX5_fits_85 hb9 h hr
            · rw [if_neg e2] at h
              by_cases e3 : p0 = (14 : Int32)
              · rw [if_pos e3] at h
                refine zr_lookup (tgt := 64) (off := 44) C dX5_fits_20 (by decide) (by rw [e3] <;> exact rfl) (by decide) ?_
                refine zr_iconst C dX5_fits_64 (q := 65) (v := (1 : Int32)) (by decide) rfl ?_
                exact zr_retZR dX5_fits_65 (Or.inr rfl) h hr
              · rw [if_neg e3] at h
                refine zr_lookup (tgt := 86) (off := 66) C dX5_fits_20 (by decide) (by show Op.lookupswitch.offset [(0, 44), (1, 46), (2, 61), (14, 44)] _ _ = _; rw [lv_osw e0 (by decide), lv_osw e1 (by decide), lv_osw e2 (by decide), lv_osw e3 (by decide)] <;> exact rfl) (by decide) ?_
                refine zr_iload_n C dX5_fits_86 (q := 87) rfl 2 rfl rfl ?_
                obtain ⟨r2, hc_87, h⟩ := zx_b1_so h
                refine zr_csI (q := 90) C (As := [.int p2]) (rest := []) dX5_fits_87 (zX_Program_isVariable_met C.2.2.2.2.1 C.2.2.2.1 hc_87) zX_sX5_39 ⟨by decide, by decide⟩ rfl (Nat.le_of_ble_eq_true rfl) rfl rfl ?_
                refine zr_if_eq (tgt := 104) (q := 93) C dX5_fits_90 h (by decide) rfl (fun h => ?_) (fun h => ?_)
                · skip
                  refine zr_iconst C dX5_fits_104 (q := 105) (v := (0 : Int32)) (by decide) rfl ?_
                  exact zr_retZR dX5_fits_105 (Or.inl rfl) h hr
                · skip
                  refine zr_iload_n C dX5_fits_93 (q := 94) rfl 3 rfl rfl ?_
                  obtain ⟨r3, hc_94, h⟩ := zx_b1_so h
                  refine zr_csI (q := 97) C (As := [.int p3]) (rest := []) dX5_fits_94 (zX_Program_isVariable_met C.2.2.2.2.1 C.2.2.2.1 hc_94) zX_sX5_39 ⟨by decide, by decide⟩ rfl (Nat.le_of_ble_eq_true rfl) rfl rfl ?_
                  refine zr_if_eq (tgt := 104) (q := 100) C dX5_fits_97 h (by decide) rfl (fun h => ?_) (fun h => ?_)
                  · skip
                    refine zr_iconst C dX5_fits_104 (q := 105) (v := (0 : Int32)) (by decide) rfl ?_
                    exact zr_retZR dX5_fits_105 (Or.inl rfl) h hr
                  · skip
                    refine zr_iconst C dX5_fits_100 (q := 101) (v := (1 : Int32)) (by decide) rfl ?_
                    refine zr_goto (q := 105) C dX5_fits_101 (by decide) ?_
                    exact zr_retZR dX5_fits_105 (Or.inr rfl) h hr
      · skip
        refine zr_iconst C dX5_fits_17 (q := 18) (v := (0 : Int32)) (by decide) rfl ?_
        exact zr_retZR dX5_fits_18 (Or.inl rfl) h hr
theorem zX_Program_fits_met {l : Launch} {D : va_G} {cz : ClassId × ClassId} {ad : Nat → Nat} (hS : zx_So zX_sd) (hi : zx_I zX_sd ad) {p0 p1 p2 p3 : Int32} {s : zx_S} {v : Int32} (h : zX_Program_fits p0 p1 p2 p3 s = some v) : zx_MI zX_sd l D cz ad yX5_fits cX5_fits 4 .boolean 1 20 [.int p0, .int p1, .int p2, .int p3] s v s := zx_metI hS hi (by decide +kernel) rfl (Nat.le_of_ble_eq_true rfl) (fun Z e1 e2 e3 e4 C hr => by subst e1 e2 e3 e4; exact zX_Program_fits_w C p0 p1 p2 p3 s hr h)
set_option maxRecDepth 100000 in
set_option maxHeartbeats 4000000 in
theorem zX_Program_insertAt_w {Z : zx_Z} (C : zx_ok zX_sd Z cX5_insertAt 4 RX5 1 18) {r : zx_S} (p1 p2 p3 : Int32) (s : zx_S) (hr : zx_rV zX_sd Z cX5_insertAt 4 r) (h : zX_Program_insertAt p1 p2 p3 s = some r) : zW zX_sd Z 4 0 [(0, .ref (zz_d Z 3)), (1, .int p1), (2, .int p2), (3, .int p3)] [] s := by
  unfold zX_Program_insertAt at h
  refine zr_aload_n C dX5_insertAt_0 (q := 1) rfl 0 rfl rfl ?_
  refine zr_iload_n C dX5_insertAt_1 (q := 2) rfl 1 rfl rfl ?_
  refine zr_aload_n C dX5_insertAt_2 (q := 3) rfl 0 rfl rfl ?_
  refine zr_iload_n C dX5_insertAt_3 (q := 4) rfl 1 rfl rfl ?_
  refine zr_iconst C dX5_insertAt_4 (q := 5) (v := (1 : Int32)) (by decide) rfl ?_
  refine zr_iadd C dX5_insertAt_5 (q := 6) rfl ?_
  refine zr_iload_n C dX5_insertAt_6 (q := 7) rfl 2 rfl rfl ?_
  refine zr_copy (q := 10) C dX5_insertAt_7 h zX_a3 zX_a3 zw_464 zw_466 zw_465 zw_74 (by decide) (by decide) rfl (fun s1 h => ?_)
  refine zr_aload_n C dX5_insertAt_10 (q := 11) rfl 0 rfl rfl ?_
  refine zr_iload_n C dX5_insertAt_11 (q := 12) rfl 1 rfl rfl ?_
  refine zr_iload_n C dX5_insertAt_12 (q := 13) rfl 3 rfl rfl ?_
  obtain ⟨hin_13, h⟩ := zx_ck_so h
  refine zr_iast C dX5_insertAt_13 (q := 14) zX_a3 hin_13 rfl ?_
  refine zr_ls h (fun s2 h => ?_)
  exact zr_retV dX5_insertAt_14 h hr
theorem zX_Program_insertAt_met {l : Launch} {D : va_G} {cz : ClassId × ClassId} {ad : Nat → Nat} (hS : zx_So zX_sd) (hi : zx_I zX_sd ad) {p1 p2 p3 : Int32} {s : zx_S} {s1 : zx_S} (h : zX_Program_insertAt p1 p2 p3 s = some s1) : zx_MV zX_sd l D cz ad yX5_insertAt cX5_insertAt 4 1 18 [.ref (ad 3), .int p1, .int p2, .int p3] s s1 := zx_metV hS hi (by decide +kernel) rfl (Nat.le_of_ble_eq_true rfl) (fun Z e1 e2 e3 e4 C hr => by subst e1 e2 e3 e4; exact zX_Program_insertAt_w C p1 p2 p3 s hr h)
set_option maxRecDepth 100000 in
set_option maxHeartbeats 4000000 in
theorem zX_Program_insertAt_2_w {Z : zx_Z} (C : zx_ok zX_sd Z cX5_insertAt 4 RX5 1 18) {r : zx_S} (p1 p2 p3 : Int32) (s : zx_S) (hr : zx_rV zX_sd Z cX5_insertAt 4 r) (h : zX_Program_insertAt_2 p1 p2 p3 s = some r) : zW zX_sd Z 4 0 [(0, .ref (zz_d Z 4)), (1, .int p1), (2, .int p2), (3, .int p3)] [] s := by
  unfold zX_Program_insertAt_2 at h
  refine zr_aload_n C dX5_insertAt_0 (q := 1) rfl 0 rfl rfl ?_
  refine zr_iload_n C dX5_insertAt_1 (q := 2) rfl 1 rfl rfl ?_
  refine zr_aload_n C dX5_insertAt_2 (q := 3) rfl 0 rfl rfl ?_
  refine zr_iload_n C dX5_insertAt_3 (q := 4) rfl 1 rfl rfl ?_
  refine zr_iconst C dX5_insertAt_4 (q := 5) (v := (1 : Int32)) (by decide) rfl ?_
  refine zr_iadd C dX5_insertAt_5 (q := 6) rfl ?_
  refine zr_iload_n C dX5_insertAt_6 (q := 7) rfl 2 rfl rfl ?_
  refine zr_copy (q := 10) C dX5_insertAt_7 h zX_a4 zX_a4 zw_464 zw_466 zw_465 zw_74 (by decide) (by decide) rfl (fun s1 h => ?_)
  refine zr_aload_n C dX5_insertAt_10 (q := 11) rfl 0 rfl rfl ?_
  refine zr_iload_n C dX5_insertAt_11 (q := 12) rfl 1 rfl rfl ?_
  refine zr_iload_n C dX5_insertAt_12 (q := 13) rfl 3 rfl rfl ?_
  obtain ⟨hin_13, h⟩ := zx_ck_so h
  refine zr_iast C dX5_insertAt_13 (q := 14) zX_a4 hin_13 rfl ?_
  refine zr_ls h (fun s2 h => ?_)
  exact zr_retV dX5_insertAt_14 h hr
theorem zX_Program_insertAt_2_met {l : Launch} {D : va_G} {cz : ClassId × ClassId} {ad : Nat → Nat} (hS : zx_So zX_sd) (hi : zx_I zX_sd ad) {p1 p2 p3 : Int32} {s : zx_S} {s1 : zx_S} (h : zX_Program_insertAt_2 p1 p2 p3 s = some s1) : zx_MV zX_sd l D cz ad yX5_insertAt cX5_insertAt 4 1 18 [.ref (ad 4), .int p1, .int p2, .int p3] s s1 := zx_metV hS hi (by decide +kernel) rfl (Nat.le_of_ble_eq_true rfl) (fun Z e1 e2 e3 e4 C hr => by subst e1 e2 e3 e4; exact zX_Program_insertAt_2_w C p1 p2 p3 s hr h)
set_option maxRecDepth 100000 in
set_option maxHeartbeats 4000000 in
theorem zX_Program_insertAt_3_w {Z : zx_Z} (C : zx_ok zX_sd Z cX5_insertAt 4 RX5 1 18) {r : zx_S} (p1 p2 p3 : Int32) (s : zx_S) (hr : zx_rV zX_sd Z cX5_insertAt 4 r) (h : zX_Program_insertAt_3 p1 p2 p3 s = some r) : zW zX_sd Z 4 0 [(0, .ref (zz_d Z 5)), (1, .int p1), (2, .int p2), (3, .int p3)] [] s := by
  unfold zX_Program_insertAt_3 at h
  refine zr_aload_n C dX5_insertAt_0 (q := 1) rfl 0 rfl rfl ?_
  refine zr_iload_n C dX5_insertAt_1 (q := 2) rfl 1 rfl rfl ?_
  refine zr_aload_n C dX5_insertAt_2 (q := 3) rfl 0 rfl rfl ?_
  refine zr_iload_n C dX5_insertAt_3 (q := 4) rfl 1 rfl rfl ?_
  refine zr_iconst C dX5_insertAt_4 (q := 5) (v := (1 : Int32)) (by decide) rfl ?_
  refine zr_iadd C dX5_insertAt_5 (q := 6) rfl ?_
  refine zr_iload_n C dX5_insertAt_6 (q := 7) rfl 2 rfl rfl ?_
  refine zr_copy (q := 10) C dX5_insertAt_7 h zX_a5 zX_a5 zw_464 zw_466 zw_465 zw_74 (by decide) (by decide) rfl (fun s1 h => ?_)
  refine zr_aload_n C dX5_insertAt_10 (q := 11) rfl 0 rfl rfl ?_
  refine zr_iload_n C dX5_insertAt_11 (q := 12) rfl 1 rfl rfl ?_
  refine zr_iload_n C dX5_insertAt_12 (q := 13) rfl 3 rfl rfl ?_
  obtain ⟨hin_13, h⟩ := zx_ck_so h
  refine zr_iast C dX5_insertAt_13 (q := 14) zX_a5 hin_13 rfl ?_
  refine zr_ls h (fun s2 h => ?_)
  exact zr_retV dX5_insertAt_14 h hr
theorem zX_Program_insertAt_3_met {l : Launch} {D : va_G} {cz : ClassId × ClassId} {ad : Nat → Nat} (hS : zx_So zX_sd) (hi : zx_I zX_sd ad) {p1 p2 p3 : Int32} {s : zx_S} {s1 : zx_S} (h : zX_Program_insertAt_3 p1 p2 p3 s = some s1) : zx_MV zX_sd l D cz ad yX5_insertAt cX5_insertAt 4 1 18 [.ref (ad 5), .int p1, .int p2, .int p3] s s1 := zx_metV hS hi (by decide +kernel) rfl (Nat.le_of_ble_eq_true rfl) (fun Z e1 e2 e3 e4 C hr => by subst e1 e2 e3 e4; exact zX_Program_insertAt_3_w C p1 p2 p3 s hr h)
set_option maxRecDepth 100000 in
set_option maxHeartbeats 4000000 in
theorem zX_Program_insertAt_4_w {Z : zx_Z} (C : zx_ok zX_sd Z cX5_insertAt 4 RX5 1 18) {r : zx_S} (p1 p2 p3 : Int32) (s : zx_S) (hr : zx_rV zX_sd Z cX5_insertAt 4 r) (h : zX_Program_insertAt_4 p1 p2 p3 s = some r) : zW zX_sd Z 4 0 [(0, .ref (zz_d Z 6)), (1, .int p1), (2, .int p2), (3, .int p3)] [] s := by
  unfold zX_Program_insertAt_4 at h
  refine zr_aload_n C dX5_insertAt_0 (q := 1) rfl 0 rfl rfl ?_
  refine zr_iload_n C dX5_insertAt_1 (q := 2) rfl 1 rfl rfl ?_
  refine zr_aload_n C dX5_insertAt_2 (q := 3) rfl 0 rfl rfl ?_
  refine zr_iload_n C dX5_insertAt_3 (q := 4) rfl 1 rfl rfl ?_
  refine zr_iconst C dX5_insertAt_4 (q := 5) (v := (1 : Int32)) (by decide) rfl ?_
  refine zr_iadd C dX5_insertAt_5 (q := 6) rfl ?_
  refine zr_iload_n C dX5_insertAt_6 (q := 7) rfl 2 rfl rfl ?_
  refine zr_copy (q := 10) C dX5_insertAt_7 h zX_a6 zX_a6 zw_464 zw_466 zw_465 zw_74 (by decide) (by decide) rfl (fun s1 h => ?_)
  refine zr_aload_n C dX5_insertAt_10 (q := 11) rfl 0 rfl rfl ?_
  refine zr_iload_n C dX5_insertAt_11 (q := 12) rfl 1 rfl rfl ?_
  refine zr_iload_n C dX5_insertAt_12 (q := 13) rfl 3 rfl rfl ?_
  obtain ⟨hin_13, h⟩ := zx_ck_so h
  refine zr_iast C dX5_insertAt_13 (q := 14) zX_a6 hin_13 rfl ?_
  refine zr_ls h (fun s2 h => ?_)
  exact zr_retV dX5_insertAt_14 h hr
theorem zX_Program_insertAt_4_met {l : Launch} {D : va_G} {cz : ClassId × ClassId} {ad : Nat → Nat} (hS : zx_So zX_sd) (hi : zx_I zX_sd ad) {p1 p2 p3 : Int32} {s : zx_S} {s1 : zx_S} (h : zX_Program_insertAt_4 p1 p2 p3 s = some s1) : zx_MV zX_sd l D cz ad yX5_insertAt cX5_insertAt 4 1 18 [.ref (ad 6), .int p1, .int p2, .int p3] s s1 := zx_metV hS hi (by decide +kernel) rfl (Nat.le_of_ble_eq_true rfl) (fun Z e1 e2 e3 e4 C hr => by subst e1 e2 e3 e4; exact zX_Program_insertAt_4_w C p1 p2 p3 s hr h)
set_option maxRecDepth 100000 in
set_option maxHeartbeats 4000000 in
theorem zX_Program_insert_L74_w {Z : zx_Z} (C : zx_ok zX_sd Z cX5_insert 9 RX5 2 41) {r : zx_S} {k98 : zx_S → Option zx_S} (hr : zx_rV zX_sd Z cX5_insert 9 r) (h98 : ∀ (s1 : zx_S), k98 s1 = some r → zW zX_sd Z 9 98 [] [] s1) : ∀ (n : Nat) (v8 : Int32) (s : zx_S), zX_Program_insert_L74 k98 n v8 s = some r → zW zX_sd Z 9 74 [(0, .ref (zz_d Z 1)), (8, .int v8)] [] s := by
  intro n
  induction n with
  | zero => intro v8 s h; unfold zX_Program_insert_L74 at h; cases h
  | succ n ih =>
    intro v8 s h
    unfold zX_Program_insert_L74 at h
    refine zr_iload C dX5_insert_74 (q := 76) 1 rfl rfl ?_
    refine zr_bipush C dX5_insert_76 (q := 78) (v := (16 : Int32)) (by decide) rfl ?_
    refine zr_icmp_gt (tgt := 98) (q := 81) C dX5_insert_78 h (by decide) rfl (fun h => ?_) (fun h => ?_)
    · skip
      exact zr_sub [] rfl (h98 s h)
    · skip
      refine zr_aload_n C dX5_insert_81 (q := 82) rfl 0 rfl rfl ?_
      refine zr_get C dX5_insert_82 (q := 85) zX_gX5_9_1 rfl ?_
      refine zr_iload C dX5_insert_85 (q := 87) 1 rfl rfl ?_
      refine zr_dup2 C dX5_insert_87 (q := 88) rfl rfl rfl ?_
      obtain ⟨hin_88, h⟩ := zx_ck_so h
      refine zr_iald C dX5_insert_88 (q := 89) zX_a2 hin_88 rfl ?_
      refine zr_iconst C dX5_insert_89 (q := 90) (v := (1 : Int32)) (by decide) rfl ?_
      refine zr_iadd C dX5_insert_90 (q := 91) rfl ?_
      refine zr_top h (fun x9 h => ?_)
      obtain ⟨hin_91, h⟩ := zx_ck_so h
      refine zr_iast C dX5_insert_91 (q := 92) zX_a2 hin_91 rfl ?_
      refine zr_ls h (fun s10 h => ?_)
      refine zr_iinc C dX5_insert_92 (q := 95) h (by decide) 1 rfl (by decide) (lw := fun v8_11 => [(8, .int v8_11), (0, .ref (zz_d Z 1))]) (fun _ => rfl) rfl (fun v8_11 h => ?_)
      refine zr_goto (q := 74) C dX5_insert_95 (by decide) ?_
      exact zr_sub [1, 0] rfl (ih v8_11 s10 h)
set_option maxRecDepth 100000 in
set_option maxHeartbeats 4000000 in
theorem zX_Program_insert_w {Z : zx_Z} (C : zx_ok zX_sd Z cX5_insert 9 RX5 2 41) {r : zx_S} (p1 p2 p3 p4 p5 : Int32) (s : zx_S) (hr : zx_rV zX_sd Z cX5_insert 9 r) (h : zX_Program_insert p1 p2 p3 p4 p5 s = some r) : zW zX_sd Z 9 0 [(0, .ref (zz_d Z 1)), (1, .int p1), (2, .int p2), (3, .int p3), (4, .int p4), (5, .int p5)] [] s := by
  unfold zX_Program_insert at h
  refine zr_aload_n C dX5_insert_0 (q := 1) rfl 0 rfl rfl ?_
  refine zr_get C dX5_insert_1 (q := 4) zX_gX5_9_1 rfl ?_
  refine zr_iload_n C dX5_insert_4 (q := 5) rfl 1 rfl rfl ?_
  refine zr_iconst C dX5_insert_5 (q := 6) (v := (1 : Int32)) (by decide) rfl ?_
  refine zr_iadd C dX5_insert_6 (q := 7) rfl ?_
  obtain ⟨hin_7, h⟩ := zx_ck_so h
  refine zr_iald C dX5_insert_7 (q := 8) zX_a2 hin_7 rfl ?_
  refine zr_top h (fun v6_1 h => ?_)
  refine zr_istore C dX5_insert_8 (q := 10) (by decide) (lv' := [(6, .int v6_1), (0, .ref (zz_d Z 1)), (1, .int p1), (2, .int p2), (3, .int p3), (4, .int p4), (5, .int p5)]) rfl rfl ?_
  refine zr_aload_n C dX5_insert_10 (q := 11) rfl 1 rfl rfl ?_
  obtain ⟨r2, hc_11, h⟩ := zx_b1_so h
  refine zr_cvI (q := 14) C (As := []) (k := 1) (rest := []) dX5_insert_11 (zX_Program_instructions_met C.2.2.2.2.1 C.2.2.2.1 hc_11) zX_vX5_50 zX_o1 ⟨by decide, by decide⟩ rfl (Nat.le_of_ble_eq_true rfl) rfl rfl ?_
  refine zr_iload C dX5_insert_14 (q := 16) 0 rfl rfl ?_
  refine zr_isub C dX5_insert_16 (q := 17) rfl ?_
  refine zr_top h (fun v7_3 h => ?_)
  refine zr_istore C dX5_insert_17 (q := 19) (by decide) (lv' := [(7, .int v7_3), (6, .int v6_1), (0, .ref (zz_d Z 1)), (1, .int p1), (2, .int p2), (3, .int p3), (4, .int p4), (5, .int p5)]) rfl rfl ?_
  refine zr_aload_n C dX5_insert_19 (q := 20) rfl 2 rfl rfl ?_
  refine zr_get C dX5_insert_20 (q := 23) zX_gX5_15_1 rfl ?_
  refine zr_iload C dX5_insert_23 (q := 25) 1 rfl rfl ?_
  refine zr_iload C dX5_insert_25 (q := 27) 0 rfl rfl ?_
  refine zr_iload_n C dX5_insert_27 (q := 28) rfl 4 rfl rfl ?_
  obtain ⟨s4, hc_28, h⟩ := zx_b1_so h
  refine zr_csV (q := 31) C (As := [.ref (zz_d Z 3), .int v6_1, .int v7_3, .int p2]) (rest := []) dX5_insert_28 (zX_Program_insertAt_met C.2.2.2.2.1 C.2.2.2.1 hc_28) zX_sX5_54 ⟨by decide, by decide⟩ rfl (Nat.le_of_ble_eq_true rfl) rfl rfl ?_
  refine zr_aload_n C dX5_insert_31 (q := 32) rfl 2 rfl rfl ?_
  refine zr_get C dX5_insert_32 (q := 35) zX_gX5_18_1 rfl ?_
  refine zr_iload C dX5_insert_35 (q := 37) 1 rfl rfl ?_
  refine zr_iload C dX5_insert_37 (q := 39) 0 rfl rfl ?_
  refine zr_iload_n C dX5_insert_39 (q := 40) rfl 5 rfl rfl ?_
  obtain ⟨s5, hc_40, h⟩ := zx_b1_so h
  refine zr_csV (q := 43) C (As := [.ref (zz_d Z 4), .int v6_1, .int v7_3, .int p3]) (rest := []) dX5_insert_40 (zX_Program_insertAt_2_met C.2.2.2.2.1 C.2.2.2.1 hc_40) zX_sX5_54 ⟨by decide, by decide⟩ rfl (Nat.le_of_ble_eq_true rfl) rfl rfl ?_
  refine zr_aload_n C dX5_insert_43 (q := 44) rfl 2 rfl rfl ?_
  refine zr_get C dX5_insert_44 (q := 47) zX_gX5_21_1 rfl ?_
  refine zr_iload C dX5_insert_47 (q := 49) 1 rfl rfl ?_
  refine zr_iload C dX5_insert_49 (q := 51) 0 rfl rfl ?_
  refine zr_iload C dX5_insert_51 (q := 53) 6 rfl rfl ?_
  obtain ⟨s6, hc_53, h⟩ := zx_b1_so h
  refine zr_csV (q := 56) C (As := [.ref (zz_d Z 5), .int v6_1, .int v7_3, .int p4]) (rest := []) dX5_insert_53 (zX_Program_insertAt_3_met C.2.2.2.2.1 C.2.2.2.1 hc_53) zX_sX5_54 ⟨by decide, by decide⟩ rfl (Nat.le_of_ble_eq_true rfl) rfl rfl ?_
  refine zr_aload_n C dX5_insert_56 (q := 57) rfl 2 rfl rfl ?_
  refine zr_get C dX5_insert_57 (q := 60) zX_gX5_24_1 rfl ?_
  refine zr_iload C dX5_insert_60 (q := 62) 1 rfl rfl ?_
  refine zr_iload C dX5_insert_62 (q := 64) 0 rfl rfl ?_
  refine zr_iload C dX5_insert_64 (q := 66) 7 rfl rfl ?_
  obtain ⟨s7, hc_66, h⟩ := zx_b1_so h
  refine zr_csV (q := 69) C (As := [.ref (zz_d Z 6), .int v6_1, .int v7_3, .int p5]) (rest := []) dX5_insert_66 (zX_Program_insertAt_4_met C.2.2.2.2.1 C.2.2.2.1 hc_66) zX_sX5_54 ⟨by decide, by decide⟩ rfl (Nat.le_of_ble_eq_true rfl) rfl rfl ?_
  refine zr_iload_n C dX5_insert_69 (q := 70) rfl 3 rfl rfl ?_
  refine zr_iconst C dX5_insert_70 (q := 71) (v := (1 : Int32)) (by decide) rfl ?_
  refine zr_iadd C dX5_insert_71 (q := 72) rfl ?_
  refine zr_top h (fun v8_8 h => ?_)
  refine zr_istore C dX5_insert_72 (q := 74) (by decide) (lv' := [(8, .int v8_8), (7, .int v7_3), (6, .int v6_1), (0, .ref (zz_d Z 1)), (1, .int p1), (2, .int p2), (3, .int p3), (4, .int p4), (5, .int p5)]) rfl rfl ?_
  refine zr_sub [3, 0] rfl (zX_Program_insert_L74_w C hr (fun s12 h => ?_) 10000 v8_8 s7 h)
  · skip
    exact zr_retV dX5_insert_98 h hr
theorem zX_Program_insert_met {l : Launch} {D : va_G} {cz : ClassId × ClassId} {ad : Nat → Nat} (hS : zx_So zX_sd) (hi : zx_I zX_sd ad) {p1 p2 p3 p4 p5 : Int32} {s : zx_S} {s1 : zx_S} (h : zX_Program_insert p1 p2 p3 p4 p5 s = some s1) : zx_MV zX_sd l D cz ad yX5_insert cX5_insert 9 2 41 [.ref (ad 1), .int p1, .int p2, .int p3, .int p4, .int p5] s s1 := zx_metV hS hi (by decide +kernel) rfl (Nat.le_of_ble_eq_true rfl) (fun Z e1 e2 e3 e4 C hr => by subst e1 e2 e3 e4; exact zX_Program_insert_w C p1 p2 p3 p4 p5 s hr h)
set_option maxRecDepth 100000 in
set_option maxHeartbeats 4000000 in
theorem zX_ValueBench_put_w {Z : zx_Z} (C : zx_ok zX_sd Z cX10_put 6 RX10 3 69) {r : Int32 × zx_S} (p1 p2 p3 p4 p5 : Int32) (s : zx_S) (hr : zx_rI zX_sd Z cX10_put 6 .int r.1 r.2) (h : zX_ValueBench_put p1 p2 p3 p4 p5 s = some r) : zW zX_sd Z 6 0 [(0, .ref (zz_d Z 0)), (1, .int p1), (2, .int p2), (3, .int p3), (4, .int p4), (5, .int p5)] [] s := by
  unfold zX_ValueBench_put at h
  refine zr_aload_n C dX10_put_0 (q := 1) rfl 0 rfl rfl ?_
  refine zr_get C dX10_put_1 (q := 4) zX_gX10_12_0 rfl ?_
  refine zr_iload_n C dX10_put_4 (q := 5) rfl 1 rfl rfl ?_
  obtain ⟨r1, hc_5, h⟩ := zx_b1_so h
  refine zr_cvI (q := 8) C (As := [.int p1]) (k := 1) (rest := []) dX10_put_5 (zX_Program_has_met C.2.2.2.2.1 C.2.2.2.1 hc_5) zX_vX10_79 zX_o1 ⟨by decide, by decide⟩ rfl (Nat.le_of_ble_eq_true rfl) rfl rfl ?_
  refine zr_if_eq (tgt := 35) (q := 11) C dX10_put_8 h (by decide) rfl (fun h => ?_) (fun h => ?_)
  · skip
    refine zr_iconst C dX10_put_35 (q := 36) (v := (-1 : Int32)) (by decide) rfl ?_
    exact zr_retI dX10_put_36 h hr
  · skip
    refine zr_aload_n C dX10_put_11 (q := 12) rfl 0 rfl rfl ?_
    refine zr_get C dX10_put_12 (q := 15) zX_gX10_12_0 rfl ?_
    obtain ⟨r2, hc_15, h⟩ := zx_b1_so h
    refine zr_cvI (q := 18) C (As := []) (k := 1) (rest := []) dX10_put_15 (zX_Program_instructions_met C.2.2.2.2.1 C.2.2.2.1 hc_15) zX_vX10_83 zX_o1 ⟨by decide, by decide⟩ rfl (Nat.le_of_ble_eq_true rfl) rfl rfl ?_
    refine zr_bipush C dX10_put_18 (q := 20) (v := (100 : Int32)) (by decide) rfl ?_
    refine zr_icmp_ge (tgt := 35) (q := 23) C dX10_put_20 h (by decide) rfl (fun h => ?_) (fun h => ?_)
    · skip
      refine zr_iconst C dX10_put_35 (q := 36) (v := (-1 : Int32)) (by decide) rfl ?_
      exact zr_retI dX10_put_36 h hr
    · skip
      refine zr_iload_n C dX10_put_23 (q := 24) rfl 2 rfl rfl ?_
      refine zr_iload_n C dX10_put_24 (q := 25) rfl 3 rfl rfl ?_
      refine zr_iload C dX10_put_25 (q := 27) 4 rfl rfl ?_
      refine zr_iload C dX10_put_27 (q := 29) 5 rfl rfl ?_
      obtain ⟨r3, hc_29, h⟩ := zx_b1_so h
      refine zr_csI (q := 32) C (As := [.int p2, .int p3, .int p4, .int p5]) (rest := []) dX10_put_29 (zX_Program_fits_met C.2.2.2.2.1 C.2.2.2.1 hc_29) zX_sX10_87 ⟨by decide, by decide⟩ rfl (Nat.le_of_ble_eq_true rfl) rfl rfl ?_
      refine zr_if_ne (tgt := 37) (q := 35) C dX10_put_32 h (by decide) rfl (fun h => ?_) (fun h => ?_)
      · skip
        refine zr_aload_n C dX10_put_37 (q := 38) rfl 0 rfl rfl ?_
        refine zr_iconst C dX10_put_38 (q := 39) (v := (1 : Int32)) (by decide) rfl ?_
        refine zr_put C dX10_put_39 (q := 42) zX_pX10_71_0 (by decide) (by decide) rfl ?_
        refine zr_ls h (fun s4 h => ?_)
        refine zr_iload_n C dX10_put_42 (q := 43) rfl 2 rfl rfl ?_
        refine zr_bipush C dX10_put_43 (q := 45) (v := (14 : Int32)) (by decide) rfl ?_
        refine zr_icmp_ne (tgt := 63) (q := 48) C dX10_put_45 h (by decide) rfl (fun h => ?_) (fun h => ?_)
        · skip
          refine zr_aload_n C dX10_put_63 (q := 64) rfl 0 rfl rfl ?_
          refine zr_get C dX10_put_64 (q := 67) zX_gX10_12_0 rfl ?_
          refine zr_iload_n C dX10_put_67 (q := 68) rfl 1 rfl rfl ?_
          refine zr_iload_n C dX10_put_68 (q := 69) rfl 2 rfl rfl ?_
          refine zr_iload_n C dX10_put_69 (q := 70) rfl 3 rfl rfl ?_
          refine zr_iload C dX10_put_70 (q := 72) 4 rfl rfl ?_
          refine zr_iload C dX10_put_72 (q := 74) 5 rfl rfl ?_
          obtain ⟨s7, hc_74, h⟩ := zx_b1_so h
          refine zr_cvV (q := 77) C (As := [.int p1, .int p2, .int p3, .int p4, .int p5]) (k := 1) (rest := []) dX10_put_74 (zX_Program_insert_met C.2.2.2.2.1 C.2.2.2.1 hc_74) zX_vX10_91 zX_o1 ⟨by decide, by decide⟩ rfl (Nat.le_of_ble_eq_true rfl) rfl rfl ?_
          refine zr_aload_n C dX10_put_77 (q := 78) rfl 0 rfl rfl ?_
          refine zr_get C dX10_put_78 (q := 81) zX_gX10_12_0 rfl ?_
          obtain ⟨r8, hc_81, h⟩ := zx_b1_so h
          refine zr_cvI (q := 84) C (As := []) (k := 1) (rest := []) dX10_put_81 (zX_Program_instructions_met C.2.2.2.2.1 C.2.2.2.1 hc_81) zX_vX10_83 zX_o1 ⟨by decide, by decide⟩ rfl (Nat.le_of_ble_eq_true rfl) rfl rfl ?_
          exact zr_retI dX10_put_84 h hr
        · skip
          refine zr_aload_n C dX10_put_48 (q := 49) rfl 0 rfl rfl ?_
          refine zr_get C dX10_put_49 (q := 52) zX_gX10_12_0 rfl ?_
          refine zr_iload_n C dX10_put_52 (q := 53) rfl 1 rfl rfl ?_
          refine zr_iload_n C dX10_put_53 (q := 54) rfl 2 rfl rfl ?_
          refine zr_iconst C dX10_put_54 (q := 55) (v := (-1 : Int32)) (by decide) rfl ?_
          refine zr_iload_n C dX10_put_55 (q := 56) rfl 3 rfl rfl ?_
          refine zr_iconst C dX10_put_56 (q := 57) (v := (-1 : Int32)) (by decide) rfl ?_
          obtain ⟨s5, hc_57, h⟩ := zx_b1_so h
          refine zr_cvV (q := 60) C (As := [.int p1, .int p2, .int (-1 : Int32), .int p3, .int (-1 : Int32)]) (k := 1) (rest := []) dX10_put_57 (zX_Program_insert_met C.2.2.2.2.1 C.2.2.2.1 hc_57) zX_vX10_91 zX_o1 ⟨by decide, by decide⟩ rfl (Nat.le_of_ble_eq_true rfl) rfl rfl ?_
          refine zr_goto (q := 77) C dX10_put_60 (by decide) ?_
          refine zr_aload_n C dX10_put_77 (q := 78) rfl 0 rfl rfl ?_
          refine zr_get C dX10_put_78 (q := 81) zX_gX10_12_0 rfl ?_
          obtain ⟨r6, hc_81, h⟩ := zx_b1_so h
          refine zr_cvI (q := 84) C (As := []) (k := 1) (rest := []) dX10_put_81 (zX_Program_instructions_met C.2.2.2.2.1 C.2.2.2.1 hc_81) zX_vX10_83 zX_o1 ⟨by decide, by decide⟩ rfl (Nat.le_of_ble_eq_true rfl) rfl rfl ?_
          exact zr_retI dX10_put_84 h hr
      · skip
        refine zr_iconst C dX10_put_35 (q := 36) (v := (-1 : Int32)) (by decide) rfl ?_
        exact zr_retI dX10_put_36 h hr
theorem zX_ValueBench_put_met {l : Launch} {D : va_G} {cz : ClassId × ClassId} {ad : Nat → Nat} (hS : zx_So zX_sd) (hi : zx_I zX_sd ad) {p1 p2 p3 p4 p5 : Int32} {s : zx_S} {v : Int32} {s1 : zx_S} (h : zX_ValueBench_put p1 p2 p3 p4 p5 s = some (v, s1)) : zx_MI zX_sd l D cz ad yX10_put cX10_put 6 .int 3 69 [.ref (ad 0), .int p1, .int p2, .int p3, .int p4, .int p5] s v s1 := zx_metI hS hi (by decide +kernel) rfl (Nat.le_of_ble_eq_true rfl) (fun Z e1 e2 e3 e4 C hr => by subst e1 e2 e3 e4; exact zX_ValueBench_put_w (r := (v, s1)) C p1 p2 p3 p4 p5 s hr h)
set_option maxRecDepth 100000 in
set_option maxHeartbeats 4000000 in
theorem zX_Program_isBlockNumber_w {Z : zx_Z} (C : zx_ok zX_sd Z cX5_isBlockNumber 1 RX5 0 0) {r : Int32} (p0 : Int32) (s : zx_S) (hr : zx_rI zX_sd Z cX5_isBlockNumber 1 .boolean r s) (h : zX_Program_isBlockNumber p0 s = some r) : zW zX_sd Z 1 0 [(0, .int p0)] [] s := by
  unfold zX_Program_isBlockNumber at h
  refine zr_iload_n C dX5_isBlockNumber_0 (q := 1) rfl 0 rfl rfl ?_
  refine zr_if_lt (tgt := 14) (q := 4) C dX5_isBlockNumber_1 h (by decide) rfl (fun h => ?_) (fun h => ?_)
  · skip
    refine zr_iconst C dX5_isBlockNumber_14 (q := 15) (v := (0 : Int32)) (by decide) rfl ?_
    exact zr_retZR dX5_isBlockNumber_15 (Or.inl rfl) h hr
  · skip
    refine zr_iload_n C dX5_isBlockNumber_4 (q := 5) rfl 0 rfl rfl ?_
    refine zr_bipush C dX5_isBlockNumber_5 (q := 7) (v := (16 : Int32)) (by decide) rfl ?_
    refine zr_icmp_ge (tgt := 14) (q := 10) C dX5_isBlockNumber_7 h (by decide) rfl (fun h => ?_) (fun h => ?_)
    · skip
      refine zr_iconst C dX5_isBlockNumber_14 (q := 15) (v := (0 : Int32)) (by decide) rfl ?_
      exact zr_retZR dX5_isBlockNumber_15 (Or.inl rfl) h hr
    · skip
      refine zr_iconst C dX5_isBlockNumber_10 (q := 11) (v := (1 : Int32)) (by decide) rfl ?_
      refine zr_goto (q := 15) C dX5_isBlockNumber_11 (by decide) ?_
      exact zr_retZR dX5_isBlockNumber_15 (Or.inr rfl) h hr
theorem zX_Program_isBlockNumber_met {l : Launch} {D : va_G} {cz : ClassId × ClassId} {ad : Nat → Nat} (hS : zx_So zX_sd) (hi : zx_I zX_sd ad) {p0 : Int32} {s : zx_S} {v : Int32} (h : zX_Program_isBlockNumber p0 s = some v) : zx_MI zX_sd l D cz ad yX5_isBlockNumber cX5_isBlockNumber 1 .boolean 0 0 [.int p0] s v s := zx_metI hS hi (by decide +kernel) rfl (Nat.le_of_ble_eq_true rfl) (fun Z e1 e2 e3 e4 C hr => by subst e1 e2 e3 e4; exact zX_Program_isBlockNumber_w C p0 s hr h)
set_option maxRecDepth 100000 in
set_option maxHeartbeats 4000000 in
theorem zX_Program_endFits_w {Z : zx_Z} (C : zx_ok zX_sd Z cX5_endFits 4 RX5 1 20) {r : Int32} (p0 p1 p2 p3 : Int32) (s : zx_S) (hr : zx_rI zX_sd Z cX5_endFits 4 .boolean r s) (h : zX_Program_endFits p0 p1 p2 p3 s = some r) : zW zX_sd Z 4 0 [(0, .int p0), (1, .int p1), (2, .int p2), (3, .int p3)] [] s := by
  unfold zX_Program_endFits at h
  refine zr_iload_n C dX5_endFits_0 (q := 1) rfl 0 rfl rfl ?_
  by_cases e0 : p0 = (0 : Int32)
  · rw [if_pos e0] at h
    refine zr_tableIn (tgt := 28) (off := 27) C dX5_endFits_1 (by rw [e0]; decide) (by rw [e0]; decide) (by rw [e0] <;> exact rfl) (by decide) ?_
    refine zr_iload_n C dX5_endFits_28 (q := 29) rfl 1 rfl rfl ?_
    obtain ⟨r5, hc_29, h⟩ := zx_b1_so h
    refine zr_csI (q := 32) C (As := [.int p1]) (rest := []) dX5_endFits_29 (zX_Program_isVariable_met C.2.2.2.2.1 C.2.2.2.1 hc_29) zX_sX5_39 ⟨by decide, by decide⟩ rfl (Nat.le_of_ble_eq_true rfl) rfl rfl ?_
    obtain ⟨hb9, h⟩ := zx_zr_so h
    exact zr_retZR dX5_endFits_32 hb9 h hr
  · rw [if_neg e0] at h
    by_cases e1 : p0 = (1 : Int32)
    · rw [if_pos e1] at h
      refine zr_tableIn (tgt := 33) (off := 32) C dX5_endFits_1 (by rw [e1]; decide) (by rw [e1]; decide) (by rw [e1] <;> exact rfl) (by decide) ?_
      refine zr_iload_n C dX5_endFits_33 (q := 34) rfl 2 rfl rfl ?_
      obtain ⟨r4, hc_34, h⟩ := zx_b1_so h
      refine zr_csI (q := 37) C (As := [.int p2]) (rest := []) dX5_endFits_34 (zX_Program_isBlockNumber_met C.2.2.2.2.1 C.2.2.2.1 hc_34) zX_sX5_43 ⟨by decide, by decide⟩ rfl (Nat.le_of_ble_eq_true rfl) rfl rfl ?_
      obtain ⟨hb9, h⟩ := zx_zr_so h
      exact zr_retZR dX5_endFits_37 hb9 h hr
    · rw [if_neg e1] at h
      by_cases e2 : p0 = (2 : Int32)
      · rw [if_pos e2] at h
        refine zr_tableIn (tgt := 38) (off := 37) C dX5_endFits_1 (by rw [e2]; decide) (by rw [e2]; decide) (by rw [e2] <;> exact rfl) (by decide) ?_
        refine zr_iload_n C dX5_endFits_38 (q := 39) rfl 1 rfl rfl ?_
        obtain ⟨r1, hc_39, h⟩ := zx_b1_so h
        refine zr_csI (q := 42) C (As := [.int p1]) (rest := []) dX5_endFits_39 (zX_Program_isVariable_met C.2.2.2.2.1 C.2.2.2.1 hc_39) zX_sX5_39 ⟨by decide, by decide⟩ rfl (Nat.le_of_ble_eq_true rfl) rfl rfl ?_
        refine zr_if_eq (tgt := 63) (q := 45) C dX5_endFits_42 h (by decide) rfl (fun h => ?_) (fun h => ?_)
        · skip
          refine zr_iconst C dX5_endFits_63 (q := 64) (v := (0 : Int32)) (by decide) rfl ?_
          exact zr_retZR dX5_endFits_64 (Or.inl rfl) h hr
        · skip
          refine zr_iload_n C dX5_endFits_45 (q := 46) rfl 2 rfl rfl ?_
          obtain ⟨r2, hc_46, h⟩ := zx_b1_so h
          refine zr_csI (q := 49) C (As := [.int p2]) (rest := []) dX5_endFits_46 (zX_Program_isBlockNumber_met C.2.2.2.2.1 C.2.2.2.1 hc_46) zX_sX5_43 ⟨by decide, by decide⟩ rfl (Nat.le_of_ble_eq_true rfl) rfl rfl ?_
          refine zr_if_eq (tgt := 63) (q := 52) C dX5_endFits_49 h (by decide) rfl (fun h => ?_) (fun h => ?_)
          · skip
            refine zr_iconst C dX5_endFits_63 (q := 64) (v := (0 : Int32)) (by decide) rfl ?_
            exact zr_retZR dX5_endFits_64 (Or.inl rfl) h hr
          · skip
            refine zr_iload_n C dX5_endFits_52 (q := 53) rfl 3 rfl rfl ?_
            obtain ⟨r3, hc_53, h⟩ := zx_b1_so h
            refine zr_csI (q := 56) C (As := [.int p3]) (rest := []) dX5_endFits_53 (zX_Program_isBlockNumber_met C.2.2.2.2.1 C.2.2.2.1 hc_53) zX_sX5_43 ⟨by decide, by decide⟩ rfl (Nat.le_of_ble_eq_true rfl) rfl rfl ?_
            refine zr_if_eq (tgt := 63) (q := 59) C dX5_endFits_56 h (by decide) rfl (fun h => ?_) (fun h => ?_)
            · skip
              refine zr_iconst C dX5_endFits_63 (q := 64) (v := (0 : Int32)) (by decide) rfl ?_
              exact zr_retZR dX5_endFits_64 (Or.inl rfl) h hr
            · skip
              refine zr_iconst C dX5_endFits_59 (q := 60) (v := (1 : Int32)) (by decide) rfl ?_
              refine zr_goto (q := 64) C dX5_endFits_60 (by decide) ?_
              exact zr_retZR dX5_endFits_64 (Or.inr rfl) h hr
      · rw [if_neg e2] at h
        refine zr_tableOut (tgt := 65) C dX5_endFits_1 (by have f0 := lv_neT (a := 0) e0 (by decide); have f1 := lv_neT (a := 1) e1 (by decide); have f2 := lv_neT (a := 2) e2 (by decide); omega) (by decide) ?_
        refine zr_iconst C dX5_endFits_65 (q := 66) (v := (0 : Int32)) (by decide) rfl ?_
        exact zr_retZR dX5_endFits_66 (Or.inl rfl) h hr
theorem zX_Program_endFits_met {l : Launch} {D : va_G} {cz : ClassId × ClassId} {ad : Nat → Nat} (hS : zx_So zX_sd) (hi : zx_I zX_sd ad) {p0 p1 p2 p3 : Int32} {s : zx_S} {v : Int32} (h : zX_Program_endFits p0 p1 p2 p3 s = some v) : zx_MI zX_sd l D cz ad yX5_endFits cX5_endFits 4 .boolean 1 20 [.int p0, .int p1, .int p2, .int p3] s v s := zx_metI hS hi (by decide +kernel) rfl (Nat.le_of_ble_eq_true rfl) (fun Z e1 e2 e3 e4 C hr => by subst e1 e2 e3 e4; exact zX_Program_endFits_w C p0 p1 p2 p3 s hr h)
set_option maxRecDepth 100000 in
set_option maxHeartbeats 4000000 in
theorem zX_Program_setEnd_J38_w {Z : zx_Z} (C : zx_ok zX_sd Z cX5_setEnd 6 RX5 0 0) {r : zx_S} (v1 v2 v5 t1 t2 : Int32) (s : zx_S) (hr : zx_rV zX_sd Z cX5_setEnd 6 r) (h : zX_Program_setEnd_J38 v1 v2 v5 t1 t2 s = some r) : zW zX_sd Z 6 38 [(0, .ref (zz_d Z 1)), (1, .int v1), (2, .int v2), (5, .int v5)] [.int t2, .int t1, .ref (zz_d Z 9)] s := by
  unfold zX_Program_setEnd_J38 at h
  obtain ⟨hin_38, h⟩ := zx_ck_so h
  refine zr_iast C dX5_setEnd_38 (q := 39) zX_a9 hin_38 rfl ?_
  refine zr_ls h (fun s3 h => ?_)
  refine zr_aload_n C dX5_setEnd_39 (q := 40) rfl 0 rfl rfl ?_
  refine zr_get C dX5_setEnd_40 (q := 43) zX_gX5_36_1 rfl ?_
  refine zr_iload_n C dX5_setEnd_43 (q := 44) rfl 1 rfl rfl ?_
  refine zr_iload_n C dX5_setEnd_44 (q := 45) rfl 2 rfl rfl ?_
  refine zr_iconst C dX5_setEnd_45 (q := 46) (v := (2 : Int32)) (by decide) rfl ?_
  refine zr_icmp_ne (tgt := 54) (q := 49) C dX5_setEnd_46 h (by decide) rfl (fun h => ?_) (fun h => ?_)
  · skip
    refine zr_aload_n C dX5_setEnd_54 (q := 55) rfl 0 rfl rfl ?_
    refine zr_get C dX5_setEnd_55 (q := 58) zX_gX5_33_1 rfl ?_
    refine zr_iload_n C dX5_setEnd_58 (q := 59) rfl 1 rfl rfl ?_
    obtain ⟨hin_59, h⟩ := zx_ck_so h
    refine zr_iald C dX5_setEnd_59 (q := 60) zX_a9 hin_59 rfl ?_
    refine zr_top h (fun x5 h => ?_)
    obtain ⟨hin_60, h⟩ := zx_ck_so h
    refine zr_iast C dX5_setEnd_60 (q := 61) zX_a10 hin_60 rfl ?_
    refine zr_ls h (fun s6 h => ?_)
    exact zr_retV dX5_setEnd_61 h hr
  · skip
    refine zr_iload C dX5_setEnd_49 (q := 51) 3 rfl rfl ?_
    refine zr_goto (q := 60) C dX5_setEnd_51 (by decide) ?_
    obtain ⟨hin_60, h⟩ := zx_ck_so h
    refine zr_iast C dX5_setEnd_60 (q := 61) zX_a10 hin_60 rfl ?_
    refine zr_ls h (fun s4 h => ?_)
    exact zr_retV dX5_setEnd_61 h hr
set_option maxRecDepth 100000 in
set_option maxHeartbeats 4000000 in
theorem zX_Program_setEnd_J22_w {Z : zx_Z} (C : zx_ok zX_sd Z cX5_setEnd 6 RX5 0 0) {r : zx_S} (v1 v2 v4 v5 t1 t2 : Int32) (s : zx_S) (hr : zx_rV zX_sd Z cX5_setEnd 6 r) (h : zX_Program_setEnd_J22 v1 v2 v4 v5 t1 t2 s = some r) : zW zX_sd Z 6 22 [(0, .ref (zz_d Z 1)), (1, .int v1), (2, .int v2), (4, .int v4), (5, .int v5)] [.int t2, .int t1, .ref (zz_d Z 8)] s := by
  unfold zX_Program_setEnd_J22 at h
  obtain ⟨hin_22, h⟩ := zx_ck_so h
  refine zr_iast C dX5_setEnd_22 (q := 23) zX_a8 hin_22 rfl ?_
  refine zr_ls h (fun s2 h => ?_)
  refine zr_aload_n C dX5_setEnd_23 (q := 24) rfl 0 rfl rfl ?_
  refine zr_get C dX5_setEnd_24 (q := 27) zX_gX5_33_1 rfl ?_
  refine zr_iload_n C dX5_setEnd_27 (q := 28) rfl 1 rfl rfl ?_
  refine zr_iload_n C dX5_setEnd_28 (q := 29) rfl 2 rfl rfl ?_
  refine zr_if_ne (tgt := 36) (q := 32) C dX5_setEnd_29 h (by decide) rfl (fun h => ?_) (fun h => ?_)
  · skip
    refine zr_iload C dX5_setEnd_36 (q := 38) 3 rfl rfl ?_
    exact zr_sub [0, 1, 2, 4] rfl (zX_Program_setEnd_J38_w C v1 v2 v5 v1 v4 s2 hr h)
  · skip
    refine zr_iconst C dX5_setEnd_32 (q := 33) (v := (0 : Int32)) (by decide) rfl ?_
    refine zr_goto (q := 38) C dX5_setEnd_33 (by decide) ?_
    exact zr_sub [0, 1, 2, 4] rfl (zX_Program_setEnd_J38_w C v1 v2 v5 v1 (0 : Int32) s2 hr h)
set_option maxRecDepth 100000 in
set_option maxHeartbeats 4000000 in
theorem zX_Program_setEnd_w {Z : zx_Z} (C : zx_ok zX_sd Z cX5_setEnd 6 RX5 0 0) {r : zx_S} (p1 p2 p3 p4 p5 : Int32) (s : zx_S) (hr : zx_rV zX_sd Z cX5_setEnd 6 r) (h : zX_Program_setEnd p1 p2 p3 p4 p5 s = some r) : zW zX_sd Z 6 0 [(0, .ref (zz_d Z 1)), (1, .int p1), (2, .int p2), (3, .int p3), (4, .int p4), (5, .int p5)] [] s := by
  unfold zX_Program_setEnd at h
  refine zr_aload_n C dX5_setEnd_0 (q := 1) rfl 0 rfl rfl ?_
  refine zr_get C dX5_setEnd_1 (q := 4) zX_gX5_27_1 rfl ?_
  refine zr_iload_n C dX5_setEnd_4 (q := 5) rfl 1 rfl rfl ?_
  refine zr_iload_n C dX5_setEnd_5 (q := 6) rfl 2 rfl rfl ?_
  obtain ⟨hin_6, h⟩ := zx_ck_so h
  refine zr_iast C dX5_setEnd_6 (q := 7) zX_a7 hin_6 rfl ?_
  refine zr_ls h (fun s1 h => ?_)
  refine zr_aload_n C dX5_setEnd_7 (q := 8) rfl 0 rfl rfl ?_
  refine zr_get C dX5_setEnd_8 (q := 11) zX_gX5_30_1 rfl ?_
  refine zr_iload_n C dX5_setEnd_11 (q := 12) rfl 1 rfl rfl ?_
  refine zr_iload_n C dX5_setEnd_12 (q := 13) rfl 2 rfl rfl ?_
  refine zr_iconst C dX5_setEnd_13 (q := 14) (v := (1 : Int32)) (by decide) rfl ?_
  refine zr_icmp_ne (tgt := 21) (q := 17) C dX5_setEnd_14 h (by decide) rfl (fun h => ?_) (fun h => ?_)
  · skip
    refine zr_iload_n C dX5_setEnd_21 (q := 22) rfl 3 rfl rfl ?_
    exact zr_sub [0, 1, 2, 4, 5] rfl (zX_Program_setEnd_J22_w C p1 p2 p4 p5 p1 p3 s1 hr h)
  · skip
    refine zr_iconst C dX5_setEnd_17 (q := 18) (v := (0 : Int32)) (by decide) rfl ?_
    refine zr_goto (q := 22) C dX5_setEnd_18 (by decide) ?_
    exact zr_sub [0, 1, 2, 4, 5] rfl (zX_Program_setEnd_J22_w C p1 p2 p4 p5 p1 (0 : Int32) s1 hr h)
theorem zX_Program_setEnd_met {l : Launch} {D : va_G} {cz : ClassId × ClassId} {ad : Nat → Nat} (hS : zx_So zX_sd) (hi : zx_I zX_sd ad) {p1 p2 p3 p4 p5 : Int32} {s : zx_S} {s1 : zx_S} (h : zX_Program_setEnd p1 p2 p3 p4 p5 s = some s1) : zx_MV zX_sd l D cz ad yX5_setEnd cX5_setEnd 6 0 0 [.ref (ad 1), .int p1, .int p2, .int p3, .int p4, .int p5] s s1 := zx_metV hS hi (by decide +kernel) rfl (Nat.le_of_ble_eq_true rfl) (fun Z e1 e2 e3 e4 C hr => by subst e1 e2 e3 e4; exact zX_Program_setEnd_w C p1 p2 p3 p4 p5 s hr h)
set_option maxRecDepth 100000 in
set_option maxHeartbeats 4000000 in
theorem zX_ValueBench_ends_w {Z : zx_Z} (C : zx_ok zX_sd Z cX10_ends 6 RX10 2 43) {r : Int32 × zx_S} (p1 p2 p3 p4 p5 : Int32) (s : zx_S) (hr : zx_rI zX_sd Z cX10_ends 6 .boolean r.1 r.2) (h : zX_ValueBench_ends p1 p2 p3 p4 p5 s = some r) : zW zX_sd Z 6 0 [(0, .ref (zz_d Z 0)), (1, .int p1), (2, .int p2), (3, .int p3), (4, .int p4), (5, .int p5)] [] s := by
  unfold zX_ValueBench_ends at h
  refine zr_aload_n C dX10_ends_0 (q := 1) rfl 0 rfl rfl ?_
  refine zr_get C dX10_ends_1 (q := 4) zX_gX10_12_0 rfl ?_
  refine zr_iload_n C dX10_ends_4 (q := 5) rfl 1 rfl rfl ?_
  obtain ⟨r1, hc_5, h⟩ := zx_b1_so h
  refine zr_cvI (q := 8) C (As := [.int p1]) (k := 1) (rest := []) dX10_ends_5 (zX_Program_has_met C.2.2.2.2.1 C.2.2.2.1 hc_5) zX_vX10_79 zX_o1 ⟨by decide, by decide⟩ rfl (Nat.le_of_ble_eq_true rfl) rfl rfl ?_
  refine zr_if_eq (tgt := 23) (q := 11) C dX10_ends_8 h (by decide) rfl (fun h => ?_) (fun h => ?_)
  · skip
    refine zr_iconst C dX10_ends_23 (q := 24) (v := (0 : Int32)) (by decide) rfl ?_
    exact zr_retZI dX10_ends_24 (Or.inl rfl) h hr
  · skip
    refine zr_iload_n C dX10_ends_11 (q := 12) rfl 2 rfl rfl ?_
    refine zr_iload_n C dX10_ends_12 (q := 13) rfl 3 rfl rfl ?_
    refine zr_iload C dX10_ends_13 (q := 15) 4 rfl rfl ?_
    refine zr_iload C dX10_ends_15 (q := 17) 5 rfl rfl ?_
    obtain ⟨r2, hc_17, h⟩ := zx_b1_so h
    refine zr_csI (q := 20) C (As := [.int p2, .int p3, .int p4, .int p5]) (rest := []) dX10_ends_17 (zX_Program_endFits_met C.2.2.2.2.1 C.2.2.2.1 hc_17) zX_sX10_95 ⟨by decide, by decide⟩ rfl (Nat.le_of_ble_eq_true rfl) rfl rfl ?_
    refine zr_if_ne (tgt := 25) (q := 23) C dX10_ends_20 h (by decide) rfl (fun h => ?_) (fun h => ?_)
    · skip
      refine zr_aload_n C dX10_ends_25 (q := 26) rfl 0 rfl rfl ?_
      refine zr_iconst C dX10_ends_26 (q := 27) (v := (1 : Int32)) (by decide) rfl ?_
      refine zr_put C dX10_ends_27 (q := 30) zX_pX10_71_0 (by decide) (by decide) rfl ?_
      refine zr_ls h (fun s3 h => ?_)
      refine zr_aload_n C dX10_ends_30 (q := 31) rfl 0 rfl rfl ?_
      refine zr_get C dX10_ends_31 (q := 34) zX_gX10_12_0 rfl ?_
      refine zr_iload_n C dX10_ends_34 (q := 35) rfl 1 rfl rfl ?_
      refine zr_iload_n C dX10_ends_35 (q := 36) rfl 2 rfl rfl ?_
      refine zr_iload_n C dX10_ends_36 (q := 37) rfl 3 rfl rfl ?_
      refine zr_iload C dX10_ends_37 (q := 39) 4 rfl rfl ?_
      refine zr_iload C dX10_ends_39 (q := 41) 5 rfl rfl ?_
      obtain ⟨s4, hc_41, h⟩ := zx_b1_so h
      refine zr_cvV (q := 44) C (As := [.int p1, .int p2, .int p3, .int p4, .int p5]) (k := 1) (rest := []) dX10_ends_41 (zX_Program_setEnd_met C.2.2.2.2.1 C.2.2.2.1 hc_41) zX_vX10_98 zX_o1 ⟨by decide, by decide⟩ rfl (Nat.le_of_ble_eq_true rfl) rfl rfl ?_
      refine zr_iconst C dX10_ends_44 (q := 45) (v := (1 : Int32)) (by decide) rfl ?_
      exact zr_retZI dX10_ends_45 (Or.inr rfl) h hr
    · skip
      refine zr_iconst C dX10_ends_23 (q := 24) (v := (0 : Int32)) (by decide) rfl ?_
      exact zr_retZI dX10_ends_24 (Or.inl rfl) h hr
theorem zX_ValueBench_ends_met {l : Launch} {D : va_G} {cz : ClassId × ClassId} {ad : Nat → Nat} (hS : zx_So zX_sd) (hi : zx_I zX_sd ad) {p1 p2 p3 p4 p5 : Int32} {s : zx_S} {v : Int32} {s1 : zx_S} (h : zX_ValueBench_ends p1 p2 p3 p4 p5 s = some (v, s1)) : zx_MI zX_sd l D cz ad yX10_ends cX10_ends 6 .boolean 2 43 [.ref (ad 0), .int p1, .int p2, .int p3, .int p4, .int p5] s v s1 := zx_metI hS hi (by decide +kernel) rfl (Nat.le_of_ble_eq_true rfl) (fun Z e1 e2 e3 e4 C hr => by subst e1 e2 e3 e4; exact zX_ValueBench_ends_w (r := (v, s1)) C p1 p2 p3 p4 p5 s hr h)
set_option maxRecDepth 100000 in
set_option maxHeartbeats 4000000 in
theorem zX_Arrays_fill_L5_w {Z : zx_Z} (C : zx_ok zX_sd Z cJ7_fill_53178 4 RJ7 0 0) {r : zx_S} (v1 v3 : Int32) {k20 : zx_S → Option zx_S} (hr : zx_rV zX_sd Z cJ7_fill_53178 4 r) (h20 : ∀ (s1 : zx_S), k20 s1 = some r → zW zX_sd Z 4 20 [] [] s1) : ∀ (n : Nat) (v2 : Int32) (s : zx_S), zX_Arrays_fill_L5 v1 v3 k20 n v2 s = some r → zW zX_sd Z 4 5 [(0, .ref (zz_d Z 2)), (1, .int v1), (2, .int v2), (3, .int v3)] [] s := by
  intro n
  induction n with
  | zero => intro v2 s h; unfold zX_Arrays_fill_L5 at h; cases h
  | succ n ih =>
    intro v2 s h
    unfold zX_Arrays_fill_L5 at h
    refine zr_iload_n C dJ7_fill_53178_5 (q := 6) rfl 2 rfl rfl ?_
    refine zr_iload_n C dJ7_fill_53178_6 (q := 7) rfl 3 rfl rfl ?_
    refine zr_icmp_ge (tgt := 20) (q := 10) C dJ7_fill_53178_7 h (by decide) rfl (fun h => ?_) (fun h => ?_)
    · skip
      exact zr_sub [] rfl (h20 s h)
    · skip
      refine zr_aload_n C dJ7_fill_53178_10 (q := 11) rfl 0 rfl rfl ?_
      refine zr_iload_n C dJ7_fill_53178_11 (q := 12) rfl 2 rfl rfl ?_
      refine zr_iload_n C dJ7_fill_53178_12 (q := 13) rfl 1 rfl rfl ?_
      obtain ⟨hin_13, h⟩ := zx_ck_so h
      refine zr_iast C dJ7_fill_53178_13 (q := 14) zX_a2 hin_13 rfl ?_
      refine zr_ls h (fun s1 h => ?_)
      refine zr_iinc C dJ7_fill_53178_14 (q := 17) h (by decide) 2 rfl (by decide) (lw := fun v2_2 => [(2, .int v2_2), (0, .ref (zz_d Z 2)), (1, .int v1), (3, .int v3)]) (fun _ => rfl) rfl (fun v2_2 h => ?_)
      refine zr_goto (q := 5) C dJ7_fill_53178_17 (by decide) ?_
      exact zr_sub [1, 2, 0, 3] rfl (ih v2_2 s1 h)
set_option maxRecDepth 100000 in
set_option maxHeartbeats 4000000 in
theorem zX_Arrays_fill_w {Z : zx_Z} (C : zx_ok zX_sd Z cJ7_fill_53178 4 RJ7 0 0) {r : zx_S} (p1 : Int32) (s : zx_S) (hr : zx_rV zX_sd Z cJ7_fill_53178 4 r) (h : zX_Arrays_fill p1 s = some r) : zW zX_sd Z 4 0 [(0, .ref (zz_d Z 2)), (1, .int p1)] [] s := by
  unfold zX_Arrays_fill at h
  refine zr_iconst C dJ7_fill_53178_0 (q := 1) (v := (0 : Int32)) (by decide) rfl ?_
  refine zr_istore_n C dJ7_fill_53178_1 (q := 2) rfl (by decide) (lv' := [(2, .int (0 : Int32)), (0, .ref (zz_d Z 2)), (1, .int p1)]) rfl rfl ?_
  refine zr_aload_n C dJ7_fill_53178_2 (q := 3) rfl 1 rfl rfl ?_
  refine zr_alen C dJ7_fill_53178_3 (q := 4) (x := (17 : Int32)) zX_a2 (by decide) rfl ?_
  refine zr_istore_n C dJ7_fill_53178_4 (q := 5) rfl (by decide) (lv' := [(3, .int (17 : Int32)), (2, .int (0 : Int32)), (0, .ref (zz_d Z 2)), (1, .int p1)]) rfl rfl ?_
  refine zr_sub [2, 3, 1, 0] rfl (zX_Arrays_fill_L5_w C p1 (17 : Int32) hr (fun s3 h => ?_) 10000 (0 : Int32) s h)
  · skip
    exact zr_retV dJ7_fill_53178_20 h hr
theorem zX_Arrays_fill_met {l : Launch} {D : va_G} {cz : ClassId × ClassId} {ad : Nat → Nat} (hS : zx_So zX_sd) (hi : zx_I zX_sd ad) {p1 : Int32} {s : zx_S} {s1 : zx_S} (h : zX_Arrays_fill p1 s = some s1) : zx_MV zX_sd l D cz ad yJ7_fill_53178 cJ7_fill_53178 4 0 0 [.ref (ad 2), .int p1] s s1 := zx_metV hS hi (by decide +kernel) rfl (Nat.le_of_ble_eq_true rfl) (fun Z e1 e2 e3 e4 C hr => by subst e1 e2 e3 e4; exact zX_Arrays_fill_w C p1 s hr h)
set_option maxRecDepth 100000 in
set_option maxHeartbeats 4000000 in
theorem zX_Arrays_fill_2_L5_w {Z : zx_Z} (C : zx_ok zX_sd Z cJ7_fill_53178 4 RJ7 0 0) {r : zx_S} (v1 v3 : Int32) {k20 : zx_S → Option zx_S} (hr : zx_rV zX_sd Z cJ7_fill_53178 4 r) (h20 : ∀ (s1 : zx_S), k20 s1 = some r → zW zX_sd Z 4 20 [] [] s1) : ∀ (n : Nat) (v2 : Int32) (s : zx_S), zX_Arrays_fill_2_L5 v1 v3 k20 n v2 s = some r → zW zX_sd Z 4 5 [(0, .ref (zz_d Z 7)), (1, .int v1), (2, .int v2), (3, .int v3)] [] s := by
  intro n
  induction n with
  | zero => intro v2 s h; unfold zX_Arrays_fill_2_L5 at h; cases h
  | succ n ih =>
    intro v2 s h
    unfold zX_Arrays_fill_2_L5 at h
    refine zr_iload_n C dJ7_fill_53178_5 (q := 6) rfl 2 rfl rfl ?_
    refine zr_iload_n C dJ7_fill_53178_6 (q := 7) rfl 3 rfl rfl ?_
    refine zr_icmp_ge (tgt := 20) (q := 10) C dJ7_fill_53178_7 h (by decide) rfl (fun h => ?_) (fun h => ?_)
    · skip
      exact zr_sub [] rfl (h20 s h)
    · skip
      refine zr_aload_n C dJ7_fill_53178_10 (q := 11) rfl 0 rfl rfl ?_
      refine zr_iload_n C dJ7_fill_53178_11 (q := 12) rfl 2 rfl rfl ?_
      refine zr_iload_n C dJ7_fill_53178_12 (q := 13) rfl 1 rfl rfl ?_
      obtain ⟨hin_13, h⟩ := zx_ck_so h
      refine zr_iast C dJ7_fill_53178_13 (q := 14) zX_a7 hin_13 rfl ?_
      refine zr_ls h (fun s1 h => ?_)
      refine zr_iinc C dJ7_fill_53178_14 (q := 17) h (by decide) 2 rfl (by decide) (lw := fun v2_2 => [(2, .int v2_2), (0, .ref (zz_d Z 7)), (1, .int v1), (3, .int v3)]) (fun _ => rfl) rfl (fun v2_2 h => ?_)
      refine zr_goto (q := 5) C dJ7_fill_53178_17 (by decide) ?_
      exact zr_sub [1, 2, 0, 3] rfl (ih v2_2 s1 h)
set_option maxRecDepth 100000 in
set_option maxHeartbeats 4000000 in
theorem zX_Arrays_fill_2_w {Z : zx_Z} (C : zx_ok zX_sd Z cJ7_fill_53178 4 RJ7 0 0) {r : zx_S} (p1 : Int32) (s : zx_S) (hr : zx_rV zX_sd Z cJ7_fill_53178 4 r) (h : zX_Arrays_fill_2 p1 s = some r) : zW zX_sd Z 4 0 [(0, .ref (zz_d Z 7)), (1, .int p1)] [] s := by
  unfold zX_Arrays_fill_2 at h
  refine zr_iconst C dJ7_fill_53178_0 (q := 1) (v := (0 : Int32)) (by decide) rfl ?_
  refine zr_istore_n C dJ7_fill_53178_1 (q := 2) rfl (by decide) (lv' := [(2, .int (0 : Int32)), (0, .ref (zz_d Z 7)), (1, .int p1)]) rfl rfl ?_
  refine zr_aload_n C dJ7_fill_53178_2 (q := 3) rfl 1 rfl rfl ?_
  refine zr_alen C dJ7_fill_53178_3 (q := 4) (x := (16 : Int32)) zX_a7 (by decide) rfl ?_
  refine zr_istore_n C dJ7_fill_53178_4 (q := 5) rfl (by decide) (lv' := [(3, .int (16 : Int32)), (2, .int (0 : Int32)), (0, .ref (zz_d Z 7)), (1, .int p1)]) rfl rfl ?_
  refine zr_sub [2, 3, 1, 0] rfl (zX_Arrays_fill_2_L5_w C p1 (16 : Int32) hr (fun s3 h => ?_) 10000 (0 : Int32) s h)
  · skip
    exact zr_retV dJ7_fill_53178_20 h hr
theorem zX_Arrays_fill_2_met {l : Launch} {D : va_G} {cz : ClassId × ClassId} {ad : Nat → Nat} (hS : zx_So zX_sd) (hi : zx_I zX_sd ad) {p1 : Int32} {s : zx_S} {s1 : zx_S} (h : zX_Arrays_fill_2 p1 s = some s1) : zx_MV zX_sd l D cz ad yJ7_fill_53178 cJ7_fill_53178 4 0 0 [.ref (ad 7), .int p1] s s1 := zx_metV hS hi (by decide +kernel) rfl (Nat.le_of_ble_eq_true rfl) (fun Z e1 e2 e3 e4 C hr => by subst e1 e2 e3 e4; exact zX_Arrays_fill_2_w C p1 s hr h)
set_option maxRecDepth 100000 in
set_option maxHeartbeats 4000000 in
theorem zX_Arrays_fill_3_L5_w {Z : zx_Z} (C : zx_ok zX_sd Z cJ7_fill_53178 4 RJ7 0 0) {r : zx_S} (v1 v3 : Int32) {k20 : zx_S → Option zx_S} (hr : zx_rV zX_sd Z cJ7_fill_53178 4 r) (h20 : ∀ (s1 : zx_S), k20 s1 = some r → zW zX_sd Z 4 20 [] [] s1) : ∀ (n : Nat) (v2 : Int32) (s : zx_S), zX_Arrays_fill_3_L5 v1 v3 k20 n v2 s = some r → zW zX_sd Z 4 5 [(0, .ref (zz_d Z 8)), (1, .int v1), (2, .int v2), (3, .int v3)] [] s := by
  intro n
  induction n with
  | zero => intro v2 s h; unfold zX_Arrays_fill_3_L5 at h; cases h
  | succ n ih =>
    intro v2 s h
    unfold zX_Arrays_fill_3_L5 at h
    refine zr_iload_n C dJ7_fill_53178_5 (q := 6) rfl 2 rfl rfl ?_
    refine zr_iload_n C dJ7_fill_53178_6 (q := 7) rfl 3 rfl rfl ?_
    refine zr_icmp_ge (tgt := 20) (q := 10) C dJ7_fill_53178_7 h (by decide) rfl (fun h => ?_) (fun h => ?_)
    · skip
      exact zr_sub [] rfl (h20 s h)
    · skip
      refine zr_aload_n C dJ7_fill_53178_10 (q := 11) rfl 0 rfl rfl ?_
      refine zr_iload_n C dJ7_fill_53178_11 (q := 12) rfl 2 rfl rfl ?_
      refine zr_iload_n C dJ7_fill_53178_12 (q := 13) rfl 1 rfl rfl ?_
      obtain ⟨hin_13, h⟩ := zx_ck_so h
      refine zr_iast C dJ7_fill_53178_13 (q := 14) zX_a8 hin_13 rfl ?_
      refine zr_ls h (fun s1 h => ?_)
      refine zr_iinc C dJ7_fill_53178_14 (q := 17) h (by decide) 2 rfl (by decide) (lw := fun v2_2 => [(2, .int v2_2), (0, .ref (zz_d Z 8)), (1, .int v1), (3, .int v3)]) (fun _ => rfl) rfl (fun v2_2 h => ?_)
      refine zr_goto (q := 5) C dJ7_fill_53178_17 (by decide) ?_
      exact zr_sub [1, 2, 0, 3] rfl (ih v2_2 s1 h)
set_option maxRecDepth 100000 in
set_option maxHeartbeats 4000000 in
theorem zX_Arrays_fill_3_w {Z : zx_Z} (C : zx_ok zX_sd Z cJ7_fill_53178 4 RJ7 0 0) {r : zx_S} (p1 : Int32) (s : zx_S) (hr : zx_rV zX_sd Z cJ7_fill_53178 4 r) (h : zX_Arrays_fill_3 p1 s = some r) : zW zX_sd Z 4 0 [(0, .ref (zz_d Z 8)), (1, .int p1)] [] s := by
  unfold zX_Arrays_fill_3 at h
  refine zr_iconst C dJ7_fill_53178_0 (q := 1) (v := (0 : Int32)) (by decide) rfl ?_
  refine zr_istore_n C dJ7_fill_53178_1 (q := 2) rfl (by decide) (lv' := [(2, .int (0 : Int32)), (0, .ref (zz_d Z 8)), (1, .int p1)]) rfl rfl ?_
  refine zr_aload_n C dJ7_fill_53178_2 (q := 3) rfl 1 rfl rfl ?_
  refine zr_alen C dJ7_fill_53178_3 (q := 4) (x := (16 : Int32)) zX_a8 (by decide) rfl ?_
  refine zr_istore_n C dJ7_fill_53178_4 (q := 5) rfl (by decide) (lv' := [(3, .int (16 : Int32)), (2, .int (0 : Int32)), (0, .ref (zz_d Z 8)), (1, .int p1)]) rfl rfl ?_
  refine zr_sub [2, 3, 1, 0] rfl (zX_Arrays_fill_3_L5_w C p1 (16 : Int32) hr (fun s3 h => ?_) 10000 (0 : Int32) s h)
  · skip
    exact zr_retV dJ7_fill_53178_20 h hr
theorem zX_Arrays_fill_3_met {l : Launch} {D : va_G} {cz : ClassId × ClassId} {ad : Nat → Nat} (hS : zx_So zX_sd) (hi : zx_I zX_sd ad) {p1 : Int32} {s : zx_S} {s1 : zx_S} (h : zX_Arrays_fill_3 p1 s = some s1) : zx_MV zX_sd l D cz ad yJ7_fill_53178 cJ7_fill_53178 4 0 0 [.ref (ad 8), .int p1] s s1 := zx_metV hS hi (by decide +kernel) rfl (Nat.le_of_ble_eq_true rfl) (fun Z e1 e2 e3 e4 C hr => by subst e1 e2 e3 e4; exact zX_Arrays_fill_3_w C p1 s hr h)
set_option maxRecDepth 100000 in
set_option maxHeartbeats 4000000 in
theorem zX_Program_forget_w {Z : zx_Z} (C : zx_ok zX_sd Z cX5_forget 1 RX5 1 23) {r : zx_S} (s : zx_S) (hr : zx_rV zX_sd Z cX5_forget 1 r) (h : zX_Program_forget s = some r) : zW zX_sd Z 1 0 [(0, .ref (zz_d Z 1))] [] s := by
  unfold zX_Program_forget at h
  refine zr_aload_n C dX5_forget_0 (q := 1) rfl 0 rfl rfl ?_
  refine zr_iconst C dX5_forget_1 (q := 2) (v := (0 : Int32)) (by decide) rfl ?_
  refine zr_put C dX5_forget_2 (q := 5) zX_pX5_46_1 rfl rfl rfl ?_
  refine zr_ls h (fun s1 h => ?_)
  refine zr_aload_n C dX5_forget_5 (q := 6) rfl 0 rfl rfl ?_
  refine zr_get C dX5_forget_6 (q := 9) zX_gX5_9_1 rfl ?_
  refine zr_iconst C dX5_forget_9 (q := 10) (v := (0 : Int32)) (by decide) rfl ?_
  obtain ⟨s2, hc_10, h⟩ := zx_b1_so h
  refine zr_csV (q := 13) C (As := [.ref (zz_d Z 2), .int (0 : Int32)]) (rest := []) dX5_forget_10 (zX_Arrays_fill_met C.2.2.2.2.1 C.2.2.2.1 hc_10) zX_sX5_64 ⟨by decide, by decide⟩ rfl (Nat.le_of_ble_eq_true rfl) rfl rfl ?_
  refine zr_aload_n C dX5_forget_13 (q := 14) rfl 0 rfl rfl ?_
  refine zr_get C dX5_forget_14 (q := 17) zX_gX5_27_1 rfl ?_
  refine zr_iconst C dX5_forget_17 (q := 18) (v := (0 : Int32)) (by decide) rfl ?_
  obtain ⟨s3, hc_18, h⟩ := zx_b1_so h
  refine zr_csV (q := 21) C (As := [.ref (zz_d Z 7), .int (0 : Int32)]) (rest := []) dX5_forget_18 (zX_Arrays_fill_2_met C.2.2.2.2.1 C.2.2.2.1 hc_18) zX_sX5_64 ⟨by decide, by decide⟩ rfl (Nat.le_of_ble_eq_true rfl) rfl rfl ?_
  refine zr_aload_n C dX5_forget_21 (q := 22) rfl 0 rfl rfl ?_
  refine zr_get C dX5_forget_22 (q := 25) zX_gX5_30_1 rfl ?_
  refine zr_iconst C dX5_forget_25 (q := 26) (v := (0 : Int32)) (by decide) rfl ?_
  obtain ⟨s4, hc_26, h⟩ := zx_b1_so h
  refine zr_csV (q := 29) C (As := [.ref (zz_d Z 8), .int (0 : Int32)]) (rest := []) dX5_forget_26 (zX_Arrays_fill_3_met C.2.2.2.2.1 C.2.2.2.1 hc_26) zX_sX5_64 ⟨by decide, by decide⟩ rfl (Nat.le_of_ble_eq_true rfl) rfl rfl ?_
  exact zr_retV dX5_forget_29 h hr
theorem zX_Program_forget_met {l : Launch} {D : va_G} {cz : ClassId × ClassId} {ad : Nat → Nat} (hS : zx_So zX_sd) (hi : zx_I zX_sd ad) {s : zx_S} {s1 : zx_S} (h : zX_Program_forget s = some s1) : zx_MV zX_sd l D cz ad yX5_forget cX5_forget 1 1 23 [.ref (ad 1)] s s1 := zx_metV hS hi (by decide +kernel) rfl (Nat.le_of_ble_eq_true rfl) (fun Z e1 e2 e3 e4 C hr => by subst e1 e2 e3 e4; exact zX_Program_forget_w C s hr h)
set_option maxRecDepth 100000 in
set_option maxHeartbeats 4000000 in
theorem zX_ValueBench_clear_w {Z : zx_Z} (C : zx_ok zX_sd Z cX10_clear 2 RX10 2 43) {r : Int32 × zx_S} (s : zx_S) (hr : zx_rI zX_sd Z cX10_clear 2 .int r.1 r.2) (h : zX_ValueBench_clear s = some r) : zW zX_sd Z 2 0 [(0, .ref (zz_d Z 0))] [] s := by
  unfold zX_ValueBench_clear at h
  refine zr_aload_n C dX10_clear_0 (q := 1) rfl 0 rfl rfl ?_
  refine zr_get C dX10_clear_1 (q := 4) zX_gX10_12_0 rfl ?_
  refine zr_get C dX10_clear_4 (q := 7) zX_gX10_75_1 rfl ?_
  refine zr_top h (fun v1_1 h => ?_)
  refine zr_istore_n C dX10_clear_7 (q := 8) rfl (by decide) (lv' := [(1, .int v1_1), (0, .ref (zz_d Z 0))]) rfl rfl ?_
  refine zr_aload_n C dX10_clear_8 (q := 9) rfl 1 rfl rfl ?_
  refine zr_iconst C dX10_clear_9 (q := 10) (v := (1 : Int32)) (by decide) rfl ?_
  refine zr_put C dX10_clear_10 (q := 13) zX_pX10_71_0 (by decide) (by decide) rfl ?_
  refine zr_ls h (fun s2 h => ?_)
  refine zr_aload_n C dX10_clear_13 (q := 14) rfl 1 rfl rfl ?_
  refine zr_get C dX10_clear_14 (q := 17) zX_gX10_12_0 rfl ?_
  obtain ⟨s3, hc_17, h⟩ := zx_b1_so h
  refine zr_cvV (q := 20) C (As := []) (k := 1) (rest := []) dX10_clear_17 (zX_Program_forget_met C.2.2.2.2.1 C.2.2.2.1 hc_17) zX_vX10_101 zX_o1 ⟨by decide, by decide⟩ rfl (Nat.le_of_ble_eq_true rfl) rfl rfl ?_
  refine zr_iload_n C dX10_clear_20 (q := 21) rfl 0 rfl rfl ?_
  exact zr_retI dX10_clear_21 h hr
theorem zX_ValueBench_clear_met {l : Launch} {D : va_G} {cz : ClassId × ClassId} {ad : Nat → Nat} (hS : zx_So zX_sd) (hi : zx_I zX_sd ad) {s : zx_S} {v : Int32} {s1 : zx_S} (h : zX_ValueBench_clear s = some (v, s1)) : zx_MI zX_sd l D cz ad yX10_clear cX10_clear 2 .int 2 43 [.ref (ad 0)] s v s1 := zx_metI hS hi (by decide +kernel) rfl (Nat.le_of_ble_eq_true rfl) (fun Z e1 e2 e3 e4 C hr => by subst e1 e2 e3 e4; exact zX_ValueBench_clear_w (r := (v, s1)) C s hr h)
set_option maxRecDepth 100000 in
set_option maxHeartbeats 4000000 in
theorem zX_Program_endCounts_w {Z : zx_Z} (C : zx_ok zX_sd Z cX5_endCounts 2 RX5 1 21) {r : Int32} (p1 : Int32) (s : zx_S) (hr : zx_rI zX_sd Z cX5_endCounts 2 .boolean r s) (h : zX_Program_endCounts p1 s = some r) : zW zX_sd Z 2 0 [(0, .ref (zz_d Z 1)), (1, .int p1)] [] s := by
  unfold zX_Program_endCounts at h
  refine zr_aload_n C dX5_endCounts_0 (q := 1) rfl 0 rfl rfl ?_
  refine zr_get C dX5_endCounts_1 (q := 4) zX_gX5_27_1 rfl ?_
  refine zr_iload_n C dX5_endCounts_4 (q := 5) rfl 1 rfl rfl ?_
  obtain ⟨hin_5, h⟩ := zx_ck_so h
  refine zr_iald C dX5_endCounts_5 (q := 6) zX_a7 hin_5 rfl ?_
  refine zr_if_eq (tgt := 35) (q := 9) C dX5_endCounts_6 h (by decide) rfl (fun h => ?_) (fun h => ?_)
  · skip
    refine zr_iconst C dX5_endCounts_35 (q := 36) (v := (1 : Int32)) (by decide) rfl ?_
    refine zr_goto (q := 40) C dX5_endCounts_36 (by decide) ?_
    exact zr_retZR dX5_endCounts_40 (Or.inr rfl) h hr
  · skip
    refine zr_aload_n C dX5_endCounts_9 (q := 10) rfl 0 rfl rfl ?_
    refine zr_aload_n C dX5_endCounts_10 (q := 11) rfl 0 rfl rfl ?_
    refine zr_get C dX5_endCounts_11 (q := 14) zX_gX5_33_1 rfl ?_
    refine zr_iload_n C dX5_endCounts_14 (q := 15) rfl 1 rfl rfl ?_
    obtain ⟨hin_15, h⟩ := zx_ck_so h
    refine zr_iald C dX5_endCounts_15 (q := 16) zX_a9 hin_15 rfl ?_
    obtain ⟨r1, hc_16, h⟩ := zx_b1_so h
    refine zr_cvI (q := 19) C (As := [.int (s 9 (p1).toNatClampNeg)]) (k := 1) (rest := []) dX5_endCounts_16 (zX_Program_has_met C.2.2.2.2.1 C.2.2.2.1 hc_16) zX_vX5_70 zX_o1 ⟨by decide, by decide⟩ rfl (Nat.le_of_ble_eq_true rfl) rfl rfl ?_
    refine zr_if_eq (tgt := 39) (q := 22) C dX5_endCounts_19 h (by decide) rfl (fun h => ?_) (fun h => ?_)
    · skip
      refine zr_iconst C dX5_endCounts_39 (q := 40) (v := (0 : Int32)) (by decide) rfl ?_
      exact zr_retZR dX5_endCounts_40 (Or.inl rfl) h hr
    · skip
      refine zr_aload_n C dX5_endCounts_22 (q := 23) rfl 0 rfl rfl ?_
      refine zr_aload_n C dX5_endCounts_23 (q := 24) rfl 0 rfl rfl ?_
      refine zr_get C dX5_endCounts_24 (q := 27) zX_gX5_36_1 rfl ?_
      refine zr_iload_n C dX5_endCounts_27 (q := 28) rfl 1 rfl rfl ?_
      obtain ⟨hin_28, h⟩ := zx_ck_so h
      refine zr_iald C dX5_endCounts_28 (q := 29) zX_a10 hin_28 rfl ?_
      obtain ⟨r2, hc_29, h⟩ := zx_b1_so h
      refine zr_cvI (q := 32) C (As := [.int (s 10 (p1).toNatClampNeg)]) (k := 1) (rest := []) dX5_endCounts_29 (zX_Program_has_met C.2.2.2.2.1 C.2.2.2.1 hc_29) zX_vX5_70 zX_o1 ⟨by decide, by decide⟩ rfl (Nat.le_of_ble_eq_true rfl) rfl rfl ?_
      refine zr_if_eq (tgt := 39) (q := 35) C dX5_endCounts_32 h (by decide) rfl (fun h => ?_) (fun h => ?_)
      · skip
        refine zr_iconst C dX5_endCounts_39 (q := 40) (v := (0 : Int32)) (by decide) rfl ?_
        exact zr_retZR dX5_endCounts_40 (Or.inl rfl) h hr
      · skip
        refine zr_iconst C dX5_endCounts_35 (q := 36) (v := (1 : Int32)) (by decide) rfl ?_
        refine zr_goto (q := 40) C dX5_endCounts_36 (by decide) ?_
        exact zr_retZR dX5_endCounts_40 (Or.inr rfl) h hr
theorem zX_Program_endCounts_met {l : Launch} {D : va_G} {cz : ClassId × ClassId} {ad : Nat → Nat} (hS : zx_So zX_sd) (hi : zx_I zX_sd ad) {p1 : Int32} {s : zx_S} {v : Int32} (h : zX_Program_endCounts p1 s = some v) : zx_MI zX_sd l D cz ad yX5_endCounts cX5_endCounts 2 .boolean 1 21 [.ref (ad 1), .int p1] s v s := zx_metI hS hi (by decide +kernel) rfl (Nat.le_of_ble_eq_true rfl) (fun Z e1 e2 e3 e4 C hr => by subst e1 e2 e3 e4; exact zX_Program_endCounts_w C p1 s hr h)
set_option maxRecDepth 100000 in
set_option maxHeartbeats 4000000 in
theorem zX_Program_howCounts_w {Z : zx_Z} (C : zx_ok zX_sd Z cX5_howCounts 2 RX5 2 42) {r : Int32} (p1 : Int32) (s : zx_S) (hr : zx_rI zX_sd Z cX5_howCounts 2 .int r s) (h : zX_Program_howCounts p1 s = some r) : zW zX_sd Z 2 0 [(0, .ref (zz_d Z 1)), (1, .int p1)] [] s := by
  unfold zX_Program_howCounts at h
  refine zr_aload_n C dX5_howCounts_0 (q := 1) rfl 0 rfl rfl ?_
  refine zr_iload_n C dX5_howCounts_1 (q := 2) rfl 1 rfl rfl ?_
  obtain ⟨r1, hc_2, h⟩ := zx_b1_so h
  refine zr_cvI (q := 5) C (As := [.int p1]) (k := 1) (rest := []) dX5_howCounts_2 (zX_Program_endCounts_met C.2.2.2.2.1 C.2.2.2.1 hc_2) zX_vX5_73 zX_o1 ⟨by decide, by decide⟩ rfl (Nat.le_of_ble_eq_true rfl) rfl rfl ?_
  refine zr_if_eq (tgt := 17) (q := 8) C dX5_howCounts_5 h (by decide) rfl (fun h => ?_) (fun h => ?_)
  · skip
    refine zr_iconst C dX5_howCounts_17 (q := 18) (v := (0 : Int32)) (by decide) rfl ?_
    exact zr_retR dX5_howCounts_18 h hr
  · skip
    refine zr_aload_n C dX5_howCounts_8 (q := 9) rfl 0 rfl rfl ?_
    refine zr_get C dX5_howCounts_9 (q := 12) zX_gX5_27_1 rfl ?_
    refine zr_iload_n C dX5_howCounts_12 (q := 13) rfl 1 rfl rfl ?_
    obtain ⟨hin_13, h⟩ := zx_ck_so h
    refine zr_iald C dX5_howCounts_13 (q := 14) zX_a7 hin_13 rfl ?_
    refine zr_goto (q := 18) C dX5_howCounts_14 (by decide) ?_
    exact zr_retR dX5_howCounts_18 h hr
theorem zX_Program_howCounts_met {l : Launch} {D : va_G} {cz : ClassId × ClassId} {ad : Nat → Nat} (hS : zx_So zX_sd) (hi : zx_I zX_sd ad) {p1 : Int32} {s : zx_S} {v : Int32} (h : zX_Program_howCounts p1 s = some v) : zx_MI zX_sd l D cz ad yX5_howCounts cX5_howCounts 2 .int 2 42 [.ref (ad 1), .int p1] s v s := zx_metI hS hi (by decide +kernel) rfl (Nat.le_of_ble_eq_true rfl) (fun Z e1 e2 e3 e4 C hr => by subst e1 e2 e3 e4; exact zX_Program_howCounts_w C p1 s hr h)
set_option maxRecDepth 100000 in
set_option maxHeartbeats 4000000 in
theorem zX_Program_toldBlocks_w {Z : zx_Z} (C : zx_ok zX_sd Z cX5_toldBlocks 2 RX5 3 63) {r : Int32} (p1 : Int32) (s : zx_S) (hr : zx_rI zX_sd Z cX5_toldBlocks 2 .int r s) (h : zX_Program_toldBlocks p1 s = some r) : zW zX_sd Z 2 0 [(0, .ref (zz_d Z 1)), (1, .int p1)] [] s := by
  unfold zX_Program_toldBlocks at h
  refine zr_aload_n C dX5_toldBlocks_0 (q := 1) rfl 0 rfl rfl ?_
  refine zr_iload_n C dX5_toldBlocks_1 (q := 2) rfl 1 rfl rfl ?_
  obtain ⟨r1, hc_2, h⟩ := zx_b1_so h
  refine zr_cvI (q := 5) C (As := [.int p1]) (k := 1) (rest := []) dX5_toldBlocks_2 (zX_Program_howCounts_met C.2.2.2.2.1 C.2.2.2.1 hc_2) zX_vX5_76 zX_o1 ⟨by decide, by decide⟩ rfl (Nat.le_of_ble_eq_true rfl) rfl rfl ?_
  refine zr_if_ne (tgt := 12) (q := 8) C dX5_toldBlocks_5 h (by decide) rfl (fun h => ?_) (fun h => ?_)
  · skip
    refine zr_iconst C dX5_toldBlocks_12 (q := 13) (v := (1 : Int32)) (by decide) rfl ?_
    refine zr_aload_n C dX5_toldBlocks_13 (q := 14) rfl 0 rfl rfl ?_
    refine zr_get C dX5_toldBlocks_14 (q := 17) zX_gX5_33_1 rfl ?_
    refine zr_iload_n C dX5_toldBlocks_17 (q := 18) rfl 1 rfl rfl ?_
    obtain ⟨hin_18, h⟩ := zx_ck_so h
    refine zr_iald C dX5_toldBlocks_18 (q := 19) zX_a9 hin_18 rfl ?_
    refine zr_ishl C dX5_toldBlocks_19 (q := 20) rfl ?_
    refine zr_iconst C dX5_toldBlocks_20 (q := 21) (v := (1 : Int32)) (by decide) rfl ?_
    refine zr_aload_n C dX5_toldBlocks_21 (q := 22) rfl 0 rfl rfl ?_
    refine zr_get C dX5_toldBlocks_22 (q := 25) zX_gX5_36_1 rfl ?_
    refine zr_iload_n C dX5_toldBlocks_25 (q := 26) rfl 1 rfl rfl ?_
    obtain ⟨hin_26, h⟩ := zx_ck_so h
    refine zr_iald C dX5_toldBlocks_26 (q := 27) zX_a10 hin_26 rfl ?_
    refine zr_ishl C dX5_toldBlocks_27 (q := 28) rfl ?_
    refine zr_ior C dX5_toldBlocks_28 (q := 29) rfl ?_
    exact zr_retR dX5_toldBlocks_29 h hr
  · skip
    refine zr_iconst C dX5_toldBlocks_8 (q := 9) (v := (0 : Int32)) (by decide) rfl ?_
    refine zr_goto (q := 29) C dX5_toldBlocks_9 (by decide) ?_
    exact zr_retR dX5_toldBlocks_29 h hr
theorem zX_Program_toldBlocks_met {l : Launch} {D : va_G} {cz : ClassId × ClassId} {ad : Nat → Nat} (hS : zx_So zX_sd) (hi : zx_I zX_sd ad) {p1 : Int32} {s : zx_S} {v : Int32} (h : zX_Program_toldBlocks p1 s = some v) : zx_MI zX_sd l D cz ad yX5_toldBlocks cX5_toldBlocks 2 .int 3 63 [.ref (ad 1), .int p1] s v s := zx_metI hS hi (by decide +kernel) rfl (Nat.le_of_ble_eq_true rfl) (fun Z e1 e2 e3 e4 C hr => by subst e1 e2 e3 e4; exact zX_Program_toldBlocks_w C p1 s hr h)
set_option maxRecDepth 100000 in
set_option maxHeartbeats 4000000 in
theorem zX_Graph_isIn_w {Z : zx_Z} (C : zx_ok zX_sd Z cX2_isIn 2 RX2 0 0) {r : Int32} (p0 p1 : Int32) (s : zx_S) (hr : zx_rI zX_sd Z cX2_isIn 2 .boolean r s) (h : zX_Graph_isIn p0 p1 s = some r) : zW zX_sd Z 2 0 [(0, .int p0), (1, .int p1)] [] s := by
  unfold zX_Graph_isIn at h
  refine zr_iload_n C dX2_isIn_0 (q := 1) rfl 0 rfl rfl ?_
  refine zr_iload_n C dX2_isIn_1 (q := 2) rfl 1 rfl rfl ?_
  refine zr_ishr C dX2_isIn_2 (q := 3) rfl ?_
  refine zr_iconst C dX2_isIn_3 (q := 4) (v := (1 : Int32)) (by decide) rfl ?_
  refine zr_iand C dX2_isIn_4 (q := 5) rfl ?_
  refine zr_if_eq (tgt := 12) (q := 8) C dX2_isIn_5 h (by decide) rfl (fun h => ?_) (fun h => ?_)
  · skip
    refine zr_iconst C dX2_isIn_12 (q := 13) (v := (0 : Int32)) (by decide) rfl ?_
    exact zr_retZR dX2_isIn_13 (Or.inl rfl) h hr
  · skip
    refine zr_iconst C dX2_isIn_8 (q := 9) (v := (1 : Int32)) (by decide) rfl ?_
    refine zr_goto (q := 13) C dX2_isIn_9 (by decide) ?_
    exact zr_retZR dX2_isIn_13 (Or.inr rfl) h hr
theorem zX_Graph_isIn_met {l : Launch} {D : va_G} {cz : ClassId × ClassId} {ad : Nat → Nat} (hS : zx_So zX_sd) (hi : zx_I zX_sd ad) {p0 p1 : Int32} {s : zx_S} {v : Int32} (h : zX_Graph_isIn p0 p1 s = some v) : zx_MI zX_sd l D cz ad yX2_isIn cX2_isIn 2 .boolean 0 0 [.int p0, .int p1] s v s := zx_metI hS hi (by decide +kernel) rfl (Nat.le_of_ble_eq_true rfl) (fun Z e1 e2 e3 e4 C hr => by subst e1 e2 e3 e4; exact zX_Graph_isIn_w C p0 p1 s hr h)
set_option maxRecDepth 100000 in
set_option maxHeartbeats 4000000 in
theorem zX_Graph_turnAround_L14_w {Z : zx_Z} (C : zx_ok zX_sd Z cX2_turnAround 4 RX2 1 21) {r : zx_S} (v2 : Int32) {k45 : zx_S → Option zx_S} (hr : zx_rV zX_sd Z cX2_turnAround 4 r) (h45 : ∀ (s1 : zx_S), k45 s1 = some r → zW zX_sd Z 4 45 [(0, .ref (zz_d Z 12)), (1, .ref (zz_d Z 13)), (2, .int v2)] [] s1) : ∀ (n : Nat) (v3 : Int32) (s : zx_S), zX_Graph_turnAround_L14 v2 k45 n v3 s = some r → zW zX_sd Z 4 14 [(0, .ref (zz_d Z 12)), (1, .ref (zz_d Z 13)), (2, .int v2), (3, .int v3)] [] s := by
  intro n
  induction n with
  | zero => intro v3 s h; unfold zX_Graph_turnAround_L14 at h; cases h
  | succ n ih =>
    intro v3 s h
    unfold zX_Graph_turnAround_L14 at h
    refine zr_iload_n C dX2_turnAround_14 (q := 15) rfl 3 rfl rfl ?_
    refine zr_bipush C dX2_turnAround_15 (q := 17) (v := (16 : Int32)) (by decide) rfl ?_
    refine zr_icmp_ge (tgt := 45) (q := 20) C dX2_turnAround_17 h (by decide) rfl (fun h => ?_) (fun h => ?_)
    · skip
      exact zr_sub [0, 1, 2] rfl (h45 s h)
    · skip
      refine zr_aload_n C dX2_turnAround_20 (q := 21) rfl 0 rfl rfl ?_
      refine zr_iload_n C dX2_turnAround_21 (q := 22) rfl 3 rfl rfl ?_
      obtain ⟨hin_22, h⟩ := zx_ck_so h
      refine zr_iald C dX2_turnAround_22 (q := 23) zX_a12 hin_22 rfl ?_
      refine zr_iload_n C dX2_turnAround_23 (q := 24) rfl 2 rfl rfl ?_
      obtain ⟨r2, hc_24, h⟩ := zx_b1_so h
      refine zr_csI (q := 27) C (As := [.int (s 12 (v3).toNatClampNeg), .int v2]) (rest := []) dX2_turnAround_24 (zX_Graph_isIn_met C.2.2.2.2.1 C.2.2.2.1 hc_24) zX_sX2_30 ⟨by decide, by decide⟩ rfl (Nat.le_of_ble_eq_true rfl) rfl rfl ?_
      refine zr_if_eq (tgt := 39) (q := 30) C dX2_turnAround_27 h (by decide) rfl (fun h => ?_) (fun h => ?_)
      · skip
        refine zr_iinc C dX2_turnAround_39 (q := 42) h (by decide) 3 rfl (by decide) (lw := fun v3_6 => [(3, .int v3_6), (0, .ref (zz_d Z 12)), (1, .ref (zz_d Z 13)), (2, .int v2)]) (fun _ => rfl) rfl (fun v3_6 h => ?_)
        refine zr_goto (q := 14) C dX2_turnAround_42 (by decide) ?_
        exact zr_sub [1, 2, 3, 0] rfl (ih v3_6 s h)
      · skip
        refine zr_aload_n C dX2_turnAround_30 (q := 31) rfl 1 rfl rfl ?_
        refine zr_iload_n C dX2_turnAround_31 (q := 32) rfl 2 rfl rfl ?_
        refine zr_dup2 C dX2_turnAround_32 (q := 33) rfl rfl rfl ?_
        obtain ⟨hin_33, h⟩ := zx_ck_so h
        refine zr_iald C dX2_turnAround_33 (q := 34) zX_a13 hin_33 rfl ?_
        refine zr_iconst C dX2_turnAround_34 (q := 35) (v := (1 : Int32)) (by decide) rfl ?_
        refine zr_iload_n C dX2_turnAround_35 (q := 36) rfl 3 rfl rfl ?_
        refine zr_ishl C dX2_turnAround_36 (q := 37) rfl ?_
        refine zr_ior C dX2_turnAround_37 (q := 38) rfl ?_
        refine zr_top h (fun x3 h => ?_)
        obtain ⟨hin_38, h⟩ := zx_ck_so h
        refine zr_iast C dX2_turnAround_38 (q := 39) zX_a13 hin_38 rfl ?_
        refine zr_ls h (fun s4 h => ?_)
        refine zr_iinc C dX2_turnAround_39 (q := 42) h (by decide) 3 rfl (by decide) (lw := fun v3_5 => [(3, .int v3_5), (0, .ref (zz_d Z 12)), (1, .ref (zz_d Z 13)), (2, .int v2)]) (fun _ => rfl) rfl (fun v3_5 h => ?_)
        refine zr_goto (q := 14) C dX2_turnAround_42 (by decide) ?_
        exact zr_sub [1, 2, 3, 0] rfl (ih v3_5 s4 h)
set_option maxRecDepth 100000 in
set_option maxHeartbeats 4000000 in
theorem zX_Graph_turnAround_L2_w {Z : zx_Z} (C : zx_ok zX_sd Z cX2_turnAround 4 RX2 1 21) {r : zx_S} {k51 : zx_S → Option zx_S} (hr : zx_rV zX_sd Z cX2_turnAround 4 r) (h51 : ∀ (s1 : zx_S), k51 s1 = some r → zW zX_sd Z 4 51 [] [] s1) : ∀ (n : Nat) (v2 : Int32) (s : zx_S), zX_Graph_turnAround_L2 k51 n v2 s = some r → zW zX_sd Z 4 2 [(0, .ref (zz_d Z 12)), (1, .ref (zz_d Z 13)), (2, .int v2)] [] s := by
  intro n
  induction n with
  | zero => intro v2 s h; unfold zX_Graph_turnAround_L2 at h; cases h
  | succ n ih =>
    intro v2 s h
    unfold zX_Graph_turnAround_L2 at h
    refine zr_iload_n C dX2_turnAround_2 (q := 3) rfl 2 rfl rfl ?_
    refine zr_bipush C dX2_turnAround_3 (q := 5) (v := (16 : Int32)) (by decide) rfl ?_
    refine zr_icmp_ge (tgt := 51) (q := 8) C dX2_turnAround_5 h (by decide) rfl (fun h => ?_) (fun h => ?_)
    · skip
      exact zr_sub [] rfl (h51 s h)
    · skip
      refine zr_aload_n C dX2_turnAround_8 (q := 9) rfl 1 rfl rfl ?_
      refine zr_iload_n C dX2_turnAround_9 (q := 10) rfl 2 rfl rfl ?_
      refine zr_iconst C dX2_turnAround_10 (q := 11) (v := (0 : Int32)) (by decide) rfl ?_
      obtain ⟨hin_11, h⟩ := zx_ck_so h
      refine zr_iast C dX2_turnAround_11 (q := 12) zX_a13 hin_11 rfl ?_
      refine zr_ls h (fun s1 h => ?_)
      refine zr_iconst C dX2_turnAround_12 (q := 13) (v := (0 : Int32)) (by decide) rfl ?_
      refine zr_istore_n C dX2_turnAround_13 (q := 14) rfl (by decide) (lv' := [(3, .int (0 : Int32)), (0, .ref (zz_d Z 12)), (1, .ref (zz_d Z 13)), (2, .int v2)]) rfl rfl ?_
      refine zr_sub [1, 2, 3, 0] rfl (zX_Graph_turnAround_L14_w C v2 hr (fun s7 h => ?_) 10000 (0 : Int32) s1 h)
      · skip
        refine zr_iinc C dX2_turnAround_45 (q := 48) h (by decide) 2 rfl (by decide) (lw := fun v2_8 => [(2, .int v2_8), (0, .ref (zz_d Z 12)), (1, .ref (zz_d Z 13))]) (fun _ => rfl) rfl (fun v2_8 h => ?_)
        refine zr_goto (q := 2) C dX2_turnAround_48 (by decide) ?_
        exact zr_sub [1, 2, 0] rfl (ih v2_8 s7 h)
set_option maxRecDepth 100000 in
set_option maxHeartbeats 4000000 in
theorem zX_Graph_turnAround_w {Z : zx_Z} (C : zx_ok zX_sd Z cX2_turnAround 4 RX2 1 21) {r : zx_S} (s : zx_S) (hr : zx_rV zX_sd Z cX2_turnAround 4 r) (h : zX_Graph_turnAround s = some r) : zW zX_sd Z 4 0 [(0, .ref (zz_d Z 12)), (1, .ref (zz_d Z 13))] [] s := by
  unfold zX_Graph_turnAround at h
  refine zr_iconst C dX2_turnAround_0 (q := 1) (v := (0 : Int32)) (by decide) rfl ?_
  refine zr_istore_n C dX2_turnAround_1 (q := 2) rfl (by decide) (lv' := [(2, .int (0 : Int32)), (0, .ref (zz_d Z 12)), (1, .ref (zz_d Z 13))]) rfl rfl ?_
  refine zr_sub [1, 2, 0] rfl (zX_Graph_turnAround_L2_w C hr (fun s9 h => ?_) 10000 (0 : Int32) s h)
  · skip
    exact zr_retV dX2_turnAround_51 h hr
theorem zX_Graph_turnAround_met {l : Launch} {D : va_G} {cz : ClassId × ClassId} {ad : Nat → Nat} (hS : zx_So zX_sd) (hi : zx_I zX_sd ad) {s : zx_S} {s1 : zx_S} (h : zX_Graph_turnAround s = some s1) : zx_MV zX_sd l D cz ad yX2_turnAround cX2_turnAround 4 1 21 [.ref (ad 12), .ref (ad 13)] s s1 := zx_metV hS hi (by decide +kernel) rfl (Nat.le_of_ble_eq_true rfl) (fun Z e1 e2 e3 e4 C hr => by subst e1 e2 e3 e4; exact zX_Graph_turnAround_w C s hr h)
set_option maxRecDepth 100000 in
set_option maxHeartbeats 4000000 in
theorem zX_Graph_union_L4_w {Z : zx_Z} (C : zx_ok zX_sd Z cX2_union 4 RX2 1 21) {r : Int32} (v0 : Int32) (s : zx_S) {k30 : Int32 → Option Int32} (hr : zx_rI zX_sd Z cX2_union 4 .int r s) (h30 : ∀ (a0 : Int32), k30 a0 = some r → zW zX_sd Z 4 30 [(2, .int a0)] [] s) : ∀ (n : Nat) (v2 : Int32) (v3 : Int32), zX_Graph_union_L4 v0 s k30 n v2 v3 = some r → zW zX_sd Z 4 4 [(0, .int v0), (1, .ref (zz_d Z 12)), (2, .int v2), (3, .int v3)] [] s := by
  intro n
  induction n with
  | zero => intro v2 v3 h; unfold zX_Graph_union_L4 at h; cases h
  | succ n ih =>
    intro v2 v3 h
    unfold zX_Graph_union_L4 at h
    refine zr_iload_n C dX2_union_4 (q := 5) rfl 3 rfl rfl ?_
    refine zr_bipush C dX2_union_5 (q := 7) (v := (16 : Int32)) (by decide) rfl ?_
    refine zr_icmp_ge (tgt := 30) (q := 10) C dX2_union_7 h (by decide) rfl (fun h => ?_) (fun h => ?_)
    · skip
      exact zr_sub [2] rfl (h30 v2 h)
    · skip
      refine zr_iload_n C dX2_union_10 (q := 11) rfl 0 rfl rfl ?_
      refine zr_iload_n C dX2_union_11 (q := 12) rfl 3 rfl rfl ?_
      obtain ⟨r1, hc_12, h⟩ := zx_b1_so h
      refine zr_csI (q := 15) C (As := [.int v0, .int v3]) (rest := []) dX2_union_12 (zX_Graph_isIn_met C.2.2.2.2.1 C.2.2.2.1 hc_12) zX_sX2_30 ⟨by decide, by decide⟩ rfl (Nat.le_of_ble_eq_true rfl) rfl rfl ?_
      refine zr_if_eq (tgt := 24) (q := 18) C dX2_union_15 h (by decide) rfl (fun h => ?_) (fun h => ?_)
      · skip
        refine zr_iinc C dX2_union_24 (q := 27) h (by decide) 3 rfl (by decide) (lw := fun v3_4 => [(3, .int v3_4), (0, .int v0), (1, .ref (zz_d Z 12)), (2, .int v2)]) (fun _ => rfl) rfl (fun v3_4 h => ?_)
        refine zr_goto (q := 4) C dX2_union_27 (by decide) ?_
        exact zr_sub [1, 2, 3, 0] rfl (ih v2 v3_4 h)
      · skip
        refine zr_iload_n C dX2_union_18 (q := 19) rfl 2 rfl rfl ?_
        refine zr_aload_n C dX2_union_19 (q := 20) rfl 1 rfl rfl ?_
        refine zr_iload_n C dX2_union_20 (q := 21) rfl 3 rfl rfl ?_
        obtain ⟨hin_21, h⟩ := zx_ck_so h
        refine zr_iald C dX2_union_21 (q := 22) zX_a12 hin_21 rfl ?_
        refine zr_ior C dX2_union_22 (q := 23) rfl ?_
        refine zr_top h (fun v2_2 h => ?_)
        refine zr_istore_n C dX2_union_23 (q := 24) rfl (by decide) (lv' := [(2, .int v2_2), (0, .int v0), (1, .ref (zz_d Z 12)), (3, .int v3)]) rfl rfl ?_
        refine zr_iinc C dX2_union_24 (q := 27) h (by decide) 3 rfl (by decide) (lw := fun v3_3 => [(3, .int v3_3), (2, .int v2_2), (0, .int v0), (1, .ref (zz_d Z 12))]) (fun _ => rfl) rfl (fun v3_3 h => ?_)
        refine zr_goto (q := 4) C dX2_union_27 (by decide) ?_
        exact zr_sub [2, 3, 1, 0] rfl (ih v2_2 v3_3 h)
set_option maxRecDepth 100000 in
set_option maxHeartbeats 4000000 in
theorem zX_Graph_union_w {Z : zx_Z} (C : zx_ok zX_sd Z cX2_union 4 RX2 1 21) {r : Int32} (p0 : Int32) (s : zx_S) (hr : zx_rI zX_sd Z cX2_union 4 .int r s) (h : zX_Graph_union p0 s = some r) : zW zX_sd Z 4 0 [(0, .int p0), (1, .ref (zz_d Z 12))] [] s := by
  unfold zX_Graph_union at h
  refine zr_iconst C dX2_union_0 (q := 1) (v := (0 : Int32)) (by decide) rfl ?_
  refine zr_istore_n C dX2_union_1 (q := 2) rfl (by decide) (lv' := [(2, .int (0 : Int32)), (0, .int p0), (1, .ref (zz_d Z 12))]) rfl rfl ?_
  refine zr_iconst C dX2_union_2 (q := 3) (v := (0 : Int32)) (by decide) rfl ?_
  refine zr_istore_n C dX2_union_3 (q := 4) rfl (by decide) (lv' := [(3, .int (0 : Int32)), (2, .int (0 : Int32)), (0, .int p0), (1, .ref (zz_d Z 12))]) rfl rfl ?_
  refine zr_sub [2, 3, 1, 0] rfl (zX_Graph_union_L4_w C p0 s hr (fun v2_5 h => ?_) 10000 (0 : Int32) (0 : Int32) h)
  · skip
    refine zr_iload_n C dX2_union_30 (q := 31) rfl 0 rfl rfl ?_
    exact zr_retR dX2_union_31 h hr
theorem zX_Graph_union_met {l : Launch} {D : va_G} {cz : ClassId × ClassId} {ad : Nat → Nat} (hS : zx_So zX_sd) (hi : zx_I zX_sd ad) {p0 : Int32} {s : zx_S} {v : Int32} (h : zX_Graph_union p0 s = some v) : zx_MI zX_sd l D cz ad yX2_union cX2_union 4 .int 1 21 [.int p0, .ref (ad 12)] s v s := zx_metI hS hi (by decide +kernel) rfl (Nat.le_of_ble_eq_true rfl) (fun Z e1 e2 e3 e4 C hr => by subst e1 e2 e3 e4; exact zX_Graph_union_w C p0 s hr h)
set_option maxRecDepth 100000 in
set_option maxHeartbeats 4000000 in
theorem zX_Graph_closure_L12_w {Z : zx_Z} (C : zx_ok zX_sd Z cX2_closure 6 RX2 2 44) {r : Int32} (v2 : Int32) (s : zx_S) {k46 : Int32 → Option Int32} (hr : zx_rI zX_sd Z cX2_closure 6 .int r s) (h46 : ∀ (a0 : Int32), k46 a0 = some r → zW zX_sd Z 6 46 [(3, .int a0)] [] s) : ∀ (n : Nat) (v3 : Int32) (v4 : Int32) (v5 : Int32), zX_Graph_closure_L12 v2 s k46 n v3 v4 v5 = some r → zW zX_sd Z 6 12 [(1, .ref (zz_d Z 12)), (2, .int v2), (3, .int v3), (4, .int v4), (5, .int v5)] [] s := by
  intro n
  induction n with
  | zero => intro v3 v4 v5 h; unfold zX_Graph_closure_L12 at h; cases h
  | succ n ih =>
    intro v3 v4 v5 h
    unfold zX_Graph_closure_L12 at h
    refine zr_iload C dX2_closure_12 (q := 14) 4 rfl rfl ?_
    refine zr_bipush C dX2_closure_14 (q := 16) (v := (16 : Int32)) (by decide) rfl ?_
    refine zr_icmp_ge (tgt := 46) (q := 19) C dX2_closure_16 h (by decide) rfl (fun h => ?_) (fun h => ?_)
    · skip
      exact zr_sub [2] rfl (h46 v3 h)
    · skip
      refine zr_iload_n C dX2_closure_19 (q := 20) rfl 2 rfl rfl ?_
      refine zr_iload C dX2_closure_20 (q := 22) 3 rfl rfl ?_
      refine zr_icmp_eq (tgt := 46) (q := 25) C dX2_closure_22 h (by decide) rfl (fun h => ?_) (fun h => ?_)
      · skip
        exact zr_sub [2] rfl (h46 v3 h)
      · skip
        refine zr_iload_n C dX2_closure_25 (q := 26) rfl 2 rfl rfl ?_
        refine zr_istore C dX2_closure_26 (q := 28) (by decide) (lv' := [(4, .int v3), (1, .ref (zz_d Z 12)), (2, .int v2), (3, .int v3), (5, .int v5)]) rfl rfl ?_
        refine zr_iload_n C dX2_closure_28 (q := 29) rfl 3 rfl rfl ?_
        refine zr_iload_n C dX2_closure_29 (q := 30) rfl 3 rfl rfl ?_
        refine zr_aload_n C dX2_closure_30 (q := 31) rfl 1 rfl rfl ?_
        obtain ⟨r2, hc_31, h⟩ := zx_b1_so h
        refine zr_csI (q := 34) C (As := [.int v3, .ref (zz_d Z 12)]) (rest := [.int v3]) dX2_closure_31 (zX_Graph_union_met C.2.2.2.2.1 C.2.2.2.1 hc_31) zX_sX2_40 ⟨by decide, by decide⟩ rfl (Nat.le_of_ble_eq_true rfl) rfl rfl ?_
        refine zr_iload_n C dX2_closure_34 (q := 35) rfl 2 rfl rfl ?_
        refine zr_iconst C dX2_closure_35 (q := 36) (v := (-1 : Int32)) (by decide) rfl ?_
        refine zr_ixor C dX2_closure_36 (q := 37) rfl ?_
        refine zr_iand C dX2_closure_37 (q := 38) rfl ?_
        refine zr_ior C dX2_closure_38 (q := 39) rfl ?_
        refine zr_top h (fun v3_3 h => ?_)
        refine zr_istore_n C dX2_closure_39 (q := 40) rfl (by decide) (lv' := [(3, .int v3_3), (4, .int v3), (1, .ref (zz_d Z 12)), (2, .int v2), (5, .int v5)]) rfl rfl ?_
        refine zr_iinc C dX2_closure_40 (q := 43) h (by decide) 4 rfl (by decide) (lw := fun v5_4 => [(5, .int v5_4), (3, .int v3_3), (4, .int v3), (1, .ref (zz_d Z 12)), (2, .int v2)]) (fun _ => rfl) rfl (fun v5_4 h => ?_)
        refine zr_goto (q := 12) C dX2_closure_43 (by decide) ?_
        exact zr_sub [3, 4, 1, 2, 0] rfl (ih v3_3 v3 v5_4 h)
set_option maxRecDepth 100000 in
set_option maxHeartbeats 4000000 in
theorem zX_Graph_closure_w {Z : zx_Z} (C : zx_ok zX_sd Z cX2_closure 6 RX2 2 44) {r : Int32} (p0 p2 : Int32) (s : zx_S) (hr : zx_rI zX_sd Z cX2_closure 6 .int r s) (h : zX_Graph_closure p0 p2 s = some r) : zW zX_sd Z 6 0 [(0, .int p0), (1, .ref (zz_d Z 12)), (2, .int p2)] [] s := by
  unfold zX_Graph_closure at h
  refine zr_iload_n C dX2_closure_0 (q := 1) rfl 0 rfl rfl ?_
  refine zr_iload_n C dX2_closure_1 (q := 2) rfl 2 rfl rfl ?_
  refine zr_iconst C dX2_closure_2 (q := 3) (v := (-1 : Int32)) (by decide) rfl ?_
  refine zr_ixor C dX2_closure_3 (q := 4) rfl ?_
  refine zr_iand C dX2_closure_4 (q := 5) rfl ?_
  refine zr_top h (fun v3_1 h => ?_)
  refine zr_istore_n C dX2_closure_5 (q := 6) rfl (by decide) (lv' := [(3, .int v3_1), (0, .int p0), (1, .ref (zz_d Z 12)), (2, .int p2)]) rfl rfl ?_
  refine zr_iconst C dX2_closure_6 (q := 7) (v := (0 : Int32)) (by decide) rfl ?_
  refine zr_istore C dX2_closure_7 (q := 9) (by decide) (lv' := [(4, .int (0 : Int32)), (3, .int v3_1), (0, .int p0), (1, .ref (zz_d Z 12)), (2, .int p2)]) rfl rfl ?_
  refine zr_iconst C dX2_closure_9 (q := 10) (v := (0 : Int32)) (by decide) rfl ?_
  refine zr_istore C dX2_closure_10 (q := 12) (by decide) (lv' := [(5, .int (0 : Int32)), (4, .int (0 : Int32)), (3, .int v3_1), (0, .int p0), (1, .ref (zz_d Z 12)), (2, .int p2)]) rfl rfl ?_
  refine zr_sub [4, 5, 2, 1, 0] rfl (zX_Graph_closure_L12_w C p2 s hr (fun v3_5 h => ?_) 10000 v3_1 (0 : Int32) (0 : Int32) h)
  · skip
    refine zr_iload_n C dX2_closure_46 (q := 47) rfl 0 rfl rfl ?_
    exact zr_retR dX2_closure_47 h hr
theorem zX_Graph_closure_met {l : Launch} {D : va_G} {cz : ClassId × ClassId} {ad : Nat → Nat} (hS : zx_So zX_sd) (hi : zx_I zX_sd ad) {p0 p2 : Int32} {s : zx_S} {v : Int32} (h : zX_Graph_closure p0 p2 s = some v) : zx_MI zX_sd l D cz ad yX2_closure cX2_closure 6 .int 2 44 [.int p0, .ref (ad 12), .int p2] s v s := zx_metI hS hi (by decide +kernel) rfl (Nat.le_of_ble_eq_true rfl) (fun Z e1 e2 e3 e4 C hr => by subst e1 e2 e3 e4; exact zX_Graph_closure_w C p0 p2 s hr h)
set_option maxRecDepth 100000 in
set_option maxHeartbeats 4000000 in
theorem zX_Graph_turnAround_2_L14_w {Z : zx_Z} (C : zx_ok zX_sd Z cX2_turnAround 4 RX2 1 21) {r : zx_S} (v2 : Int32) {k45 : zx_S → Option zx_S} (hr : zx_rV zX_sd Z cX2_turnAround 4 r) (h45 : ∀ (s1 : zx_S), k45 s1 = some r → zW zX_sd Z 4 45 [(0, .ref (zz_d Z 14)), (1, .ref (zz_d Z 15)), (2, .int v2)] [] s1) : ∀ (n : Nat) (v3 : Int32) (s : zx_S), zX_Graph_turnAround_2_L14 v2 k45 n v3 s = some r → zW zX_sd Z 4 14 [(0, .ref (zz_d Z 14)), (1, .ref (zz_d Z 15)), (2, .int v2), (3, .int v3)] [] s := by
  intro n
  induction n with
  | zero => intro v3 s h; unfold zX_Graph_turnAround_2_L14 at h; cases h
  | succ n ih =>
    intro v3 s h
    unfold zX_Graph_turnAround_2_L14 at h
    refine zr_iload_n C dX2_turnAround_14 (q := 15) rfl 3 rfl rfl ?_
    refine zr_bipush C dX2_turnAround_15 (q := 17) (v := (16 : Int32)) (by decide) rfl ?_
    refine zr_icmp_ge (tgt := 45) (q := 20) C dX2_turnAround_17 h (by decide) rfl (fun h => ?_) (fun h => ?_)
    · skip
      exact zr_sub [0, 1, 2] rfl (h45 s h)
    · skip
      refine zr_aload_n C dX2_turnAround_20 (q := 21) rfl 0 rfl rfl ?_
      refine zr_iload_n C dX2_turnAround_21 (q := 22) rfl 3 rfl rfl ?_
      obtain ⟨hin_22, h⟩ := zx_ck_so h
      refine zr_iald C dX2_turnAround_22 (q := 23) zX_a14 hin_22 rfl ?_
      refine zr_iload_n C dX2_turnAround_23 (q := 24) rfl 2 rfl rfl ?_
      obtain ⟨r2, hc_24, h⟩ := zx_b1_so h
      refine zr_csI (q := 27) C (As := [.int (s 14 (v3).toNatClampNeg), .int v2]) (rest := []) dX2_turnAround_24 (zX_Graph_isIn_met C.2.2.2.2.1 C.2.2.2.1 hc_24) zX_sX2_30 ⟨by decide, by decide⟩ rfl (Nat.le_of_ble_eq_true rfl) rfl rfl ?_
      refine zr_if_eq (tgt := 39) (q := 30) C dX2_turnAround_27 h (by decide) rfl (fun h => ?_) (fun h => ?_)
      · skip
        refine zr_iinc C dX2_turnAround_39 (q := 42) h (by decide) 3 rfl (by decide) (lw := fun v3_6 => [(3, .int v3_6), (0, .ref (zz_d Z 14)), (1, .ref (zz_d Z 15)), (2, .int v2)]) (fun _ => rfl) rfl (fun v3_6 h => ?_)
        refine zr_goto (q := 14) C dX2_turnAround_42 (by decide) ?_
        exact zr_sub [1, 2, 3, 0] rfl (ih v3_6 s h)
      · skip
        refine zr_aload_n C dX2_turnAround_30 (q := 31) rfl 1 rfl rfl ?_
        refine zr_iload_n C dX2_turnAround_31 (q := 32) rfl 2 rfl rfl ?_
        refine zr_dup2 C dX2_turnAround_32 (q := 33) rfl rfl rfl ?_
        obtain ⟨hin_33, h⟩ := zx_ck_so h
        refine zr_iald C dX2_turnAround_33 (q := 34) zX_a15 hin_33 rfl ?_
        refine zr_iconst C dX2_turnAround_34 (q := 35) (v := (1 : Int32)) (by decide) rfl ?_
        refine zr_iload_n C dX2_turnAround_35 (q := 36) rfl 3 rfl rfl ?_
        refine zr_ishl C dX2_turnAround_36 (q := 37) rfl ?_
        refine zr_ior C dX2_turnAround_37 (q := 38) rfl ?_
        refine zr_top h (fun x3 h => ?_)
        obtain ⟨hin_38, h⟩ := zx_ck_so h
        refine zr_iast C dX2_turnAround_38 (q := 39) zX_a15 hin_38 rfl ?_
        refine zr_ls h (fun s4 h => ?_)
        refine zr_iinc C dX2_turnAround_39 (q := 42) h (by decide) 3 rfl (by decide) (lw := fun v3_5 => [(3, .int v3_5), (0, .ref (zz_d Z 14)), (1, .ref (zz_d Z 15)), (2, .int v2)]) (fun _ => rfl) rfl (fun v3_5 h => ?_)
        refine zr_goto (q := 14) C dX2_turnAround_42 (by decide) ?_
        exact zr_sub [1, 2, 3, 0] rfl (ih v3_5 s4 h)
set_option maxRecDepth 100000 in
set_option maxHeartbeats 4000000 in
theorem zX_Graph_turnAround_2_L2_w {Z : zx_Z} (C : zx_ok zX_sd Z cX2_turnAround 4 RX2 1 21) {r : zx_S} {k51 : zx_S → Option zx_S} (hr : zx_rV zX_sd Z cX2_turnAround 4 r) (h51 : ∀ (s1 : zx_S), k51 s1 = some r → zW zX_sd Z 4 51 [] [] s1) : ∀ (n : Nat) (v2 : Int32) (s : zx_S), zX_Graph_turnAround_2_L2 k51 n v2 s = some r → zW zX_sd Z 4 2 [(0, .ref (zz_d Z 14)), (1, .ref (zz_d Z 15)), (2, .int v2)] [] s := by
  intro n
  induction n with
  | zero => intro v2 s h; unfold zX_Graph_turnAround_2_L2 at h; cases h
  | succ n ih =>
    intro v2 s h
    unfold zX_Graph_turnAround_2_L2 at h
    refine zr_iload_n C dX2_turnAround_2 (q := 3) rfl 2 rfl rfl ?_
    refine zr_bipush C dX2_turnAround_3 (q := 5) (v := (16 : Int32)) (by decide) rfl ?_
    refine zr_icmp_ge (tgt := 51) (q := 8) C dX2_turnAround_5 h (by decide) rfl (fun h => ?_) (fun h => ?_)
    · skip
      exact zr_sub [] rfl (h51 s h)
    · skip
      refine zr_aload_n C dX2_turnAround_8 (q := 9) rfl 1 rfl rfl ?_
      refine zr_iload_n C dX2_turnAround_9 (q := 10) rfl 2 rfl rfl ?_
      refine zr_iconst C dX2_turnAround_10 (q := 11) (v := (0 : Int32)) (by decide) rfl ?_
      obtain ⟨hin_11, h⟩ := zx_ck_so h
      refine zr_iast C dX2_turnAround_11 (q := 12) zX_a15 hin_11 rfl ?_
      refine zr_ls h (fun s1 h => ?_)
      refine zr_iconst C dX2_turnAround_12 (q := 13) (v := (0 : Int32)) (by decide) rfl ?_
      refine zr_istore_n C dX2_turnAround_13 (q := 14) rfl (by decide) (lv' := [(3, .int (0 : Int32)), (0, .ref (zz_d Z 14)), (1, .ref (zz_d Z 15)), (2, .int v2)]) rfl rfl ?_
      refine zr_sub [1, 2, 3, 0] rfl (zX_Graph_turnAround_2_L14_w C v2 hr (fun s7 h => ?_) 10000 (0 : Int32) s1 h)
      · skip
        refine zr_iinc C dX2_turnAround_45 (q := 48) h (by decide) 2 rfl (by decide) (lw := fun v2_8 => [(2, .int v2_8), (0, .ref (zz_d Z 14)), (1, .ref (zz_d Z 15))]) (fun _ => rfl) rfl (fun v2_8 h => ?_)
        refine zr_goto (q := 2) C dX2_turnAround_48 (by decide) ?_
        exact zr_sub [1, 2, 0] rfl (ih v2_8 s7 h)
set_option maxRecDepth 100000 in
set_option maxHeartbeats 4000000 in
theorem zX_Graph_turnAround_2_w {Z : zx_Z} (C : zx_ok zX_sd Z cX2_turnAround 4 RX2 1 21) {r : zx_S} (s : zx_S) (hr : zx_rV zX_sd Z cX2_turnAround 4 r) (h : zX_Graph_turnAround_2 s = some r) : zW zX_sd Z 4 0 [(0, .ref (zz_d Z 14)), (1, .ref (zz_d Z 15))] [] s := by
  unfold zX_Graph_turnAround_2 at h
  refine zr_iconst C dX2_turnAround_0 (q := 1) (v := (0 : Int32)) (by decide) rfl ?_
  refine zr_istore_n C dX2_turnAround_1 (q := 2) rfl (by decide) (lv' := [(2, .int (0 : Int32)), (0, .ref (zz_d Z 14)), (1, .ref (zz_d Z 15))]) rfl rfl ?_
  refine zr_sub [1, 2, 0] rfl (zX_Graph_turnAround_2_L2_w C hr (fun s9 h => ?_) 10000 (0 : Int32) s h)
  · skip
    exact zr_retV dX2_turnAround_51 h hr
theorem zX_Graph_turnAround_2_met {l : Launch} {D : va_G} {cz : ClassId × ClassId} {ad : Nat → Nat} (hS : zx_So zX_sd) (hi : zx_I zX_sd ad) {s : zx_S} {s1 : zx_S} (h : zX_Graph_turnAround_2 s = some s1) : zx_MV zX_sd l D cz ad yX2_turnAround cX2_turnAround 4 1 21 [.ref (ad 14), .ref (ad 15)] s s1 := zx_metV hS hi (by decide +kernel) rfl (Nat.le_of_ble_eq_true rfl) (fun Z e1 e2 e3 e4 C hr => by subst e1 e2 e3 e4; exact zX_Graph_turnAround_2_w C s hr h)
set_option maxRecDepth 100000 in
set_option maxHeartbeats 4000000 in
theorem zX_Graph_parentOf_L15_w {Z : zx_Z} (C : zx_ok zX_sd Z cX2_parentOf 4 RX2 1 21) {r : Int32} (v2 : Int32) (s : zx_S) {k39 : Int32 → Option Int32} (hr : zx_rI zX_sd Z cX2_parentOf 4 .int r s) (h39 : ∀ (a0 : Int32), k39 a0 = some r → zW zX_sd Z 4 39 [(3, .int a0)] [] s) : ∀ (n : Nat) (v3 : Int32), zX_Graph_parentOf_L15 v2 s k39 n v3 = some r → zW zX_sd Z 4 15 [(0, .ref (zz_d Z 11)), (2, .int v2), (3, .int v3)] [] s := by
  intro n
  induction n with
  | zero => intro v3 h; unfold zX_Graph_parentOf_L15 at h; cases h
  | succ n ih =>
    intro v3 h
    unfold zX_Graph_parentOf_L15 at h
    refine zr_iload_n C dX2_parentOf_15 (q := 16) rfl 2 rfl rfl ?_
    refine zr_bipush C dX2_parentOf_16 (q := 18) (v := (16 : Int32)) (by decide) rfl ?_
    refine zr_icmp_ge (tgt := 47) (q := 21) C dX2_parentOf_18 h (by decide) rfl (fun h => ?_) (fun h => ?_)
    · skip
      refine zr_iconst C dX2_parentOf_47 (q := 48) (v := (-1 : Int32)) (by decide) rfl ?_
      exact zr_retR dX2_parentOf_48 h hr
    · skip
      refine zr_iload_n C dX2_parentOf_21 (q := 22) rfl 1 rfl rfl ?_
      refine zr_iload_n C dX2_parentOf_22 (q := 23) rfl 2 rfl rfl ?_
      obtain ⟨r2, hc_23, h⟩ := zx_b1_so h
      refine zr_csI (q := 26) C (As := [.int v2, .int v3]) (rest := []) dX2_parentOf_23 (zX_Graph_isIn_met C.2.2.2.2.1 C.2.2.2.1 hc_23) zX_sX2_30 ⟨by decide, by decide⟩ rfl (Nat.le_of_ble_eq_true rfl) rfl rfl ?_
      refine zr_if_eq (tgt := 41) (q := 29) C dX2_parentOf_26 h (by decide) rfl (fun h => ?_) (fun h => ?_)
      · skip
        refine zr_iinc C dX2_parentOf_41 (q := 44) h (by decide) 2 rfl (by decide) (lw := fun v3_4 => [(3, .int v3_4), (0, .ref (zz_d Z 11)), (2, .int v2)]) (fun _ => rfl) rfl (fun v3_4 h => ?_)
        refine zr_goto (q := 15) C dX2_parentOf_44 (by decide) ?_
        exact zr_sub [1, 2, 0] rfl (ih v3_4 h)
      · skip
        refine zr_aload_n C dX2_parentOf_29 (q := 30) rfl 0 rfl rfl ?_
        refine zr_get C dX2_parentOf_30 (q := 33) zX_gX2_21_11 rfl ?_
        refine zr_iload_n C dX2_parentOf_33 (q := 34) rfl 2 rfl rfl ?_
        obtain ⟨hin_34, h⟩ := zx_ck_so h
        refine zr_iald C dX2_parentOf_34 (q := 35) zX_a15 hin_34 rfl ?_
        refine zr_iload_n C dX2_parentOf_35 (q := 36) rfl 1 rfl rfl ?_
        refine zr_icmp_ne (tgt := 41) (q := 39) C dX2_parentOf_36 h (by decide) rfl (fun h => ?_) (fun h => ?_)
        · skip
          refine zr_iinc C dX2_parentOf_41 (q := 44) h (by decide) 2 rfl (by decide) (lw := fun v3_3 => [(3, .int v3_3), (0, .ref (zz_d Z 11)), (2, .int v2)]) (fun _ => rfl) rfl (fun v3_3 h => ?_)
          refine zr_goto (q := 15) C dX2_parentOf_44 (by decide) ?_
          exact zr_sub [1, 2, 0] rfl (ih v3_3 h)
        · skip
          exact zr_sub [2] rfl (h39 v3 h)
set_option maxRecDepth 100000 in
set_option maxHeartbeats 4000000 in
theorem zX_Graph_parentOf_w {Z : zx_Z} (C : zx_ok zX_sd Z cX2_parentOf 4 RX2 1 21) {r : Int32} (p1 : Int32) (s : zx_S) (hr : zx_rI zX_sd Z cX2_parentOf 4 .int r s) (h : zX_Graph_parentOf p1 s = some r) : zW zX_sd Z 4 0 [(0, .ref (zz_d Z 11)), (1, .int p1)] [] s := by
  unfold zX_Graph_parentOf at h
  refine zr_aload_n C dX2_parentOf_0 (q := 1) rfl 0 rfl rfl ?_
  refine zr_get C dX2_parentOf_1 (q := 4) zX_gX2_21_11 rfl ?_
  refine zr_iload_n C dX2_parentOf_4 (q := 5) rfl 1 rfl rfl ?_
  obtain ⟨hin_5, h⟩ := zx_ck_so h
  refine zr_iald C dX2_parentOf_5 (q := 6) zX_a15 hin_5 rfl ?_
  refine zr_iconst C dX2_parentOf_6 (q := 7) (v := (1 : Int32)) (by decide) rfl ?_
  refine zr_iload_n C dX2_parentOf_7 (q := 8) rfl 1 rfl rfl ?_
  refine zr_ishl C dX2_parentOf_8 (q := 9) rfl ?_
  refine zr_iconst C dX2_parentOf_9 (q := 10) (v := (-1 : Int32)) (by decide) rfl ?_
  refine zr_ixor C dX2_parentOf_10 (q := 11) rfl ?_
  refine zr_iand C dX2_parentOf_11 (q := 12) rfl ?_
  refine zr_top h (fun v2_1 h => ?_)
  refine zr_istore_n C dX2_parentOf_12 (q := 13) rfl (by decide) (lv' := [(2, .int v2_1), (0, .ref (zz_d Z 11)), (1, .int p1)]) rfl rfl ?_
  refine zr_iconst C dX2_parentOf_13 (q := 14) (v := (0 : Int32)) (by decide) rfl ?_
  refine zr_istore_n C dX2_parentOf_14 (q := 15) rfl (by decide) (lv' := [(3, .int (0 : Int32)), (2, .int v2_1), (0, .ref (zz_d Z 11)), (1, .int p1)]) rfl rfl ?_
  refine zr_sub [2, 1, 0] rfl (zX_Graph_parentOf_L15_w C v2_1 s hr (fun v3_5 h => ?_) 10000 (0 : Int32) h)
  · skip
    refine zr_iload_n C dX2_parentOf_39 (q := 40) rfl 0 rfl rfl ?_
    exact zr_retR dX2_parentOf_40 h hr
theorem zX_Graph_parentOf_met {l : Launch} {D : va_G} {cz : ClassId × ClassId} {ad : Nat → Nat} (hS : zx_So zX_sd) (hi : zx_I zX_sd ad) {p1 : Int32} {s : zx_S} {v : Int32} (h : zX_Graph_parentOf p1 s = some v) : zx_MI zX_sd l D cz ad yX2_parentOf cX2_parentOf 4 .int 1 21 [.ref (ad 11), .int p1] s v s := zx_metI hS hi (by decide +kernel) rfl (Nat.le_of_ble_eq_true rfl) (fun Z e1 e2 e3 e4 C hr => by subst e1 e2 e3 e4; exact zX_Graph_parentOf_w C p1 s hr h)
