set_option maxRecDepth 100000 in
set_option maxHeartbeats 4000000 in
theorem zX_ValueForm_left_w {Z : zx_Z} (C : zx_ok zX_sd Z cX8_left 2 RX8 0 0) {r : Int32} (p1 : Int32) (s : zx_S) (hr : zx_rI zX_sd Z cX8_left 2 .int r s) (h : zX_ValueForm_left p1 s = some r) : zW zX_sd Z 2 0 [(0, .ref (zz_d Z 44)), (1, .int p1)] [] s := by
  unfold zX_ValueForm_left at h
  refine zr_aload_n C dX8_left_0 (q := 1) rfl 0 rfl rfl ?_
  refine zr_get C dX8_left_1 (q := 4) zX_gX8_15_44 rfl ?_
  refine zr_get C dX8_left_4 (q := 7) zX_gX8_84_1 rfl ?_
  refine zr_iload_n C dX8_left_7 (q := 8) rfl 1 rfl rfl ?_
  obtain ⟨hin_8, h⟩ := zx_ck_so h
  refine zr_iald C dX8_left_8 (q := 9) zX_a3 hin_8 rfl ?_
  refine zr_bipush C dX8_left_9 (q := 11) (v := (14 : Int32)) (by decide) rfl ?_
  refine zr_icmp_ne (tgt := 24) (q := 14) C dX8_left_11 h (by decide) rfl (fun h => ?_) (fun h => ?_)
  · skip
    refine zr_aload_n C dX8_left_24 (q := 25) rfl 0 rfl rfl ?_
    refine zr_get C dX8_left_25 (q := 28) zX_gX8_40_44 rfl ?_
    refine zr_get C dX8_left_28 (q := 31) zX_gX8_73_24 rfl ?_
    refine zr_aload_n C dX8_left_31 (q := 32) rfl 0 rfl rfl ?_
    refine zr_get C dX8_left_32 (q := 35) zX_gX8_23_44 rfl ?_
    refine zr_get C dX8_left_35 (q := 38) zX_gX8_78_18 rfl ?_
    refine zr_aload_n C dX8_left_38 (q := 39) rfl 0 rfl rfl ?_
    refine zr_get C dX8_left_39 (q := 42) zX_gX8_23_44 rfl ?_
    refine zr_get C dX8_left_42 (q := 45) zX_gX8_81_18 rfl ?_
    refine zr_iload_n C dX8_left_45 (q := 46) rfl 1 rfl rfl ?_
    obtain ⟨hin_46, h⟩ := zx_ck_so h
    refine zr_iald C dX8_left_46 (q := 47) zX_a28 hin_46 rfl ?_
    obtain ⟨hin_47, h⟩ := zx_ck_so h
    refine zr_iald C dX8_left_47 (q := 48) zX_a23 hin_47 rfl ?_
    obtain ⟨hin_48, h⟩ := zx_ck_so h
    refine zr_iald C dX8_left_48 (q := 49) zX_a25 hin_48 rfl ?_
    exact zr_retR dX8_left_49 h hr
  · skip
    refine zr_aload_n C dX8_left_14 (q := 15) rfl 0 rfl rfl ?_
    refine zr_get C dX8_left_15 (q := 18) zX_gX8_40_44 rfl ?_
    refine zr_get C dX8_left_18 (q := 21) zX_gX8_89_24 rfl ?_
    refine zr_iload_n C dX8_left_21 (q := 22) rfl 1 rfl rfl ?_
    obtain ⟨hin_22, h⟩ := zx_ck_so h
    refine zr_iald C dX8_left_22 (q := 23) zX_a26 hin_22 rfl ?_
    exact zr_retR dX8_left_23 h hr
theorem zX_ValueForm_left_met {l : Launch} {D : va_G} {cz : ClassId × ClassId} {ad : Nat → Nat} (hS : zx_So zX_sd) (hi : zx_I zX_sd ad) {p1 : Int32} {s : zx_S} {v : Int32} (h : zX_ValueForm_left p1 s = some v) : zx_MI zX_sd l D cz ad yX8_left cX8_left 2 .int 0 0 [.ref (ad 44), .int p1] s v s := zx_metI hS hi (by decide +kernel) rfl (Nat.le_of_ble_eq_true rfl) (fun Z e1 e2 e3 e4 C hr => by subst e1 e2 e3 e4; exact zX_ValueForm_left_w C p1 s hr h)
set_option maxRecDepth 100000 in
set_option maxHeartbeats 4000000 in
theorem zX_ValueForm_right_w {Z : zx_Z} (C : zx_ok zX_sd Z cX8_right 2 RX8 0 0) {r : Int32} (p1 : Int32) (s : zx_S) (hr : zx_rI zX_sd Z cX8_right 2 .int r s) (h : zX_ValueForm_right p1 s = some r) : zW zX_sd Z 2 0 [(0, .ref (zz_d Z 44)), (1, .int p1)] [] s := by
  unfold zX_ValueForm_right at h
  refine zr_aload_n C dX8_right_0 (q := 1) rfl 0 rfl rfl ?_
  refine zr_get C dX8_right_1 (q := 4) zX_gX8_40_44 rfl ?_
  refine zr_get C dX8_right_4 (q := 7) zX_gX8_73_24 rfl ?_
  refine zr_aload_n C dX8_right_7 (q := 8) rfl 0 rfl rfl ?_
  refine zr_get C dX8_right_8 (q := 11) zX_gX8_23_44 rfl ?_
  refine zr_get C dX8_right_11 (q := 14) zX_gX8_78_18 rfl ?_
  refine zr_aload_n C dX8_right_14 (q := 15) rfl 0 rfl rfl ?_
  refine zr_get C dX8_right_15 (q := 18) zX_gX8_23_44 rfl ?_
  refine zr_get C dX8_right_18 (q := 21) zX_gX8_81_18 rfl ?_
  refine zr_iload_n C dX8_right_21 (q := 22) rfl 1 rfl rfl ?_
  obtain ⟨hin_22, h⟩ := zx_ck_so h
  refine zr_iald C dX8_right_22 (q := 23) zX_a28 hin_22 rfl ?_
  obtain ⟨hin_23, h⟩ := zx_ck_so h
  refine zr_iald C dX8_right_23 (q := 24) zX_a23 hin_23 rfl ?_
  refine zr_iconst C dX8_right_24 (q := 25) (v := (1 : Int32)) (by decide) rfl ?_
  refine zr_iadd C dX8_right_25 (q := 26) rfl ?_
  obtain ⟨hin_26, h⟩ := zx_ck_so h
  refine zr_iald C dX8_right_26 (q := 27) zX_a25 hin_26 rfl ?_
  exact zr_retR dX8_right_27 h hr
theorem zX_ValueForm_right_met {l : Launch} {D : va_G} {cz : ClassId × ClassId} {ad : Nat → Nat} (hS : zx_So zX_sd) (hi : zx_I zX_sd ad) {p1 : Int32} {s : zx_S} {v : Int32} (h : zX_ValueForm_right p1 s = some v) : zx_MI zX_sd l D cz ad yX8_right cX8_right 2 .int 0 0 [.ref (ad 44), .int p1] s v s := zx_metI hS hi (by decide +kernel) rfl (Nat.le_of_ble_eq_true rfl) (fun Z e1 e2 e3 e4 C hr => by subst e1 e2 e3 e4; exact zX_ValueForm_right_w C p1 s hr h)
set_option maxRecDepth 100000 in
set_option maxHeartbeats 4000000 in
theorem zX_Machine_follow_2_w {Z : zx_Z} (C : zx_ok zX_sd Z cX4_follow 5 RX4 2 43) {r : zx_S} (p2 : Int32) (s : zx_S) (hr : zx_rV zX_sd Z cX4_follow 5 r) (h : zX_Machine_follow_2 p2 s = some r) : zW zX_sd Z 5 0 [(0, .ref (zz_d Z 50)), (1, .ref (zz_d Z 44)), (2, .int p2)] [] s := by
  unfold zX_Machine_follow_2 at h
  refine zr_aload_n C dX4_follow_0 (q := 1) rfl 1 rfl rfl ?_
  refine zr_get C dX4_follow_1 (q := 4) zX_gX4_58_44 rfl ?_
  refine zr_astore_n C dX4_follow_4 (q := 5) rfl (by decide) (lv' := [(3, .ref (zz_d Z 45)), (0, .ref (zz_d Z 50)), (1, .ref (zz_d Z 44)), (2, .int p2)]) rfl rfl ?_
  refine zr_aload_n C dX4_follow_5 (q := 6) rfl 1 rfl rfl ?_
  refine zr_get C dX4_follow_6 (q := 9) zX_gX4_22_50 rfl ?_
  refine zr_get C dX4_follow_9 (q := 12) zX_gX4_79_1 rfl ?_
  refine zr_iload_n C dX4_follow_12 (q := 13) rfl 3 rfl rfl ?_
  obtain ⟨hin_13, h⟩ := zx_ck_so h
  refine zr_iald C dX4_follow_13 (q := 14) zX_a3 hin_13 rfl ?_
  refine zr_top h (fun v4_1 h => ?_)
  refine zr_istore C dX4_follow_14 (q := 16) (by decide) (lv' := [(4, .int v4_1), (3, .ref (zz_d Z 45)), (0, .ref (zz_d Z 50)), (1, .ref (zz_d Z 44)), (2, .int p2)]) rfl rfl ?_
  refine zr_iload C dX4_follow_16 (q := 18) 0 rfl rfl ?_
  by_cases e0 : v4_1 = (0 : Int32)
  · rw [if_pos e0] at h
    refine zr_lookup (tgt := 60) (off := 42) C dX4_follow_18 (by decide) (by rw [e0] <;> exact rfl) (by decide) ?_
    refine zr_aload_n C dX4_follow_60 (q := 61) rfl 1 rfl rfl ?_
    refine zr_aload_n C dX4_follow_61 (q := 62) rfl 3 rfl rfl ?_
    refine zr_iload_n C dX4_follow_62 (q := 63) rfl 4 rfl rfl ?_
    obtain ⟨r16, hc_63, h⟩ := zx_b1_so h
    refine zr_caI (q := 66) C (As := [.int p2]) (k := 44) (rest := [.ref (zz_d Z 45)]) dX4_follow_63 (zX_ValueForm_target_met C.2.2.2.2.1 C.2.2.2.1 hc_63) zX_bX4_82_X8 zX_o44 ⟨by decide, by decide⟩ rfl (Nat.le_of_ble_eq_true rfl) rfl rfl ?_
    refine zr_aload_n C dX4_follow_66 (q := 67) rfl 2 rfl rfl ?_
    refine zr_get C dX4_follow_67 (q := 70) zX_gX4_22_50 rfl ?_
    refine zr_get C dX4_follow_70 (q := 73) zX_gX4_85_1 rfl ?_
    refine zr_iload_n C dX4_follow_73 (q := 74) rfl 4 rfl rfl ?_
    obtain ⟨hin_74, h⟩ := zx_ck_so h
    refine zr_iald C dX4_follow_74 (q := 75) zX_a5 hin_74 rfl ?_
    refine zr_top h (fun x17 h => ?_)
    obtain ⟨hin_75, h⟩ := zx_ck_so h
    refine zr_iast C dX4_follow_75 (q := 76) zX_a45 hin_75 rfl ?_
    refine zr_ls h (fun s18 h => ?_)
    refine zr_goto (q := 160) C dX4_follow_76 (by decide) ?_
    exact zr_retV dX4_follow_160 h hr
  · rw [if_neg e0] at h
    by_cases e1 : v4_1 = (1 : Int32)
    · rw [if_pos e1] at h
      refine zr_lookup (tgt := 79) (off := 61) C dX4_follow_18 (by decide) (by rw [e1] <;> exact rfl) (by decide) ?_
      refine zr_aload_n C dX4_follow_79 (q := 80) rfl 1 rfl rfl ?_
      refine zr_aload_n C dX4_follow_80 (q := 81) rfl 3 rfl rfl ?_
      refine zr_iload_n C dX4_follow_81 (q := 82) rfl 4 rfl rfl ?_
      obtain ⟨r13, hc_82, h⟩ := zx_b1_so h
      refine zr_caI (q := 85) C (As := [.int p2]) (k := 44) (rest := [.ref (zz_d Z 45)]) dX4_follow_82 (zX_ValueForm_target_met C.2.2.2.2.1 C.2.2.2.1 hc_82) zX_bX4_82_X8 zX_o44 ⟨by decide, by decide⟩ rfl (Nat.le_of_ble_eq_true rfl) rfl rfl ?_
      refine zr_aload_n C dX4_follow_85 (q := 86) rfl 2 rfl rfl ?_
      refine zr_get C dX4_follow_86 (q := 89) zX_gX4_9_50 rfl ?_
      refine zr_aload_n C dX4_follow_89 (q := 90) rfl 2 rfl rfl ?_
      refine zr_get C dX4_follow_90 (q := 93) zX_gX4_22_50 rfl ?_
      refine zr_get C dX4_follow_93 (q := 96) zX_gX4_85_1 rfl ?_
      refine zr_iload_n C dX4_follow_96 (q := 97) rfl 4 rfl rfl ?_
      obtain ⟨hin_97, h⟩ := zx_ck_so h
      refine zr_iald C dX4_follow_97 (q := 98) zX_a5 hin_97 rfl ?_
      obtain ⟨hin_98, h⟩ := zx_ck_so h
      refine zr_iald C dX4_follow_98 (q := 99) zX_a51 hin_98 rfl ?_
      refine zr_top h (fun x14 h => ?_)
      obtain ⟨hin_99, h⟩ := zx_ck_so h
      refine zr_iast C dX4_follow_99 (q := 100) zX_a45 hin_99 rfl ?_
      refine zr_ls h (fun s15 h => ?_)
      refine zr_goto (q := 160) C dX4_follow_100 (by decide) ?_
      exact zr_retV dX4_follow_160 h hr
    · rw [if_neg e1] at h
      by_cases e2 : v4_1 = (2 : Int32)
      · rw [if_pos e2] at h
        refine zr_lookup (tgt := 103) (off := 85) C dX4_follow_18 (by decide) (by rw [e2] <;> exact rfl) (by decide) ?_
        refine zr_aload_n C dX4_follow_103 (q := 104) rfl 1 rfl rfl ?_
        refine zr_aload_n C dX4_follow_104 (q := 105) rfl 3 rfl rfl ?_
        refine zr_iload_n C dX4_follow_105 (q := 106) rfl 4 rfl rfl ?_
        obtain ⟨r9, hc_106, h⟩ := zx_b1_so h
        refine zr_caI (q := 109) C (As := [.int p2]) (k := 44) (rest := [.ref (zz_d Z 45)]) dX4_follow_106 (zX_ValueForm_target_met C.2.2.2.2.1 C.2.2.2.1 hc_106) zX_bX4_82_X8 zX_o44 ⟨by decide, by decide⟩ rfl (Nat.le_of_ble_eq_true rfl) rfl rfl ?_
        refine zr_aload_n C dX4_follow_109 (q := 110) rfl 1 rfl rfl ?_
        refine zr_aload_n C dX4_follow_110 (q := 111) rfl 3 rfl rfl ?_
        refine zr_iload_n C dX4_follow_111 (q := 112) rfl 4 rfl rfl ?_
        obtain ⟨r10, hc_112, h⟩ := zx_b1_so h
        refine zr_caI (q := 115) C (As := [.int p2]) (k := 44) (rest := [.ref (zz_d Z 45), .int r9, .ref (zz_d Z 45)]) dX4_follow_112 (zX_ValueForm_left_met C.2.2.2.2.1 C.2.2.2.1 hc_112) zX_bX4_88_X8 zX_o44 ⟨by decide, by decide⟩ rfl (Nat.le_of_ble_eq_true rfl) rfl rfl ?_
        obtain ⟨hin_115, h⟩ := zx_ck_so h
        refine zr_iald C dX4_follow_115 (q := 116) zX_a45 hin_115 rfl ?_
        refine zr_top h (fun x11 h => ?_)
        obtain ⟨hin_116, h⟩ := zx_ck_so h
        refine zr_iast C dX4_follow_116 (q := 117) zX_a45 hin_116 rfl ?_
        refine zr_ls h (fun s12 h => ?_)
        refine zr_goto (q := 160) C dX4_follow_117 (by decide) ?_
        exact zr_retV dX4_follow_160 h hr
      · rw [if_neg e2] at h
        by_cases e3 : v4_1 = (14 : Int32)
        · rw [if_pos e3] at h
          refine zr_lookup (tgt := 120) (off := 102) C dX4_follow_18 (by decide) (by rw [e3] <;> exact rfl) (by decide) ?_
          refine zr_aload_n C dX4_follow_120 (q := 121) rfl 2 rfl rfl ?_
          refine zr_aload_n C dX4_follow_121 (q := 122) rfl 1 rfl rfl ?_
          refine zr_aload_n C dX4_follow_122 (q := 123) rfl 3 rfl rfl ?_
          refine zr_iload_n C dX4_follow_123 (q := 124) rfl 4 rfl rfl ?_
          obtain ⟨r7, hc_124, h⟩ := zx_b1_so h
          refine zr_caI (q := 127) C (As := [.int p2]) (k := 44) (rest := [.ref (zz_d Z 45), .ref (zz_d Z 50)]) dX4_follow_124 (zX_ValueForm_left_met C.2.2.2.2.1 C.2.2.2.1 hc_124) zX_bX4_88_X8 zX_o44 ⟨by decide, by decide⟩ rfl (Nat.le_of_ble_eq_true rfl) rfl rfl ?_
          obtain ⟨hin_127, h⟩ := zx_ck_so h
          refine zr_iald C dX4_follow_127 (q := 128) zX_a45 hin_127 rfl ?_
          obtain ⟨s8, hc_128, h⟩ := zx_b1_so h
          refine zr_cvV (q := 131) C (As := [.int (s 45 (r7).toNatClampNeg)]) (k := 50) (rest := []) dX4_follow_128 (zX_Machine_tell_met C.2.2.2.2.1 C.2.2.2.1 hc_128) zX_vX4_91 zX_o50 ⟨by decide, by decide⟩ rfl (Nat.le_of_ble_eq_true rfl) rfl rfl ?_
          refine zr_goto (q := 160) C dX4_follow_131 (by decide) ?_
          exact zr_retV dX4_follow_160 h hr
        · rw [if_neg e3] at h
          refine zr_lookup (tgt := 134) (off := 116) C dX4_follow_18 (by decide) (by show Op.lookupswitch.offset [(0, 42), (1, 61), (2, 85), (14, 102)] _ _ = _; rw [lv_osw e0 (by decide), lv_osw e1 (by decide), lv_osw e2 (by decide), lv_osw e3 (by decide)] <;> exact rfl) (by decide) ?_
          refine zr_aload_n C dX4_follow_134 (q := 135) rfl 1 rfl rfl ?_
          refine zr_aload_n C dX4_follow_135 (q := 136) rfl 3 rfl rfl ?_
          refine zr_iload_n C dX4_follow_136 (q := 137) rfl 4 rfl rfl ?_
          obtain ⟨r2, hc_137, h⟩ := zx_b1_so h
          refine zr_caI (q := 140) C (As := [.int p2]) (k := 44) (rest := [.ref (zz_d Z 45)]) dX4_follow_137 (zX_ValueForm_target_met C.2.2.2.2.1 C.2.2.2.1 hc_137) zX_bX4_82_X8 zX_o44 ⟨by decide, by decide⟩ rfl (Nat.le_of_ble_eq_true rfl) rfl rfl ?_
          refine zr_iload C dX4_follow_140 (q := 142) 0 rfl rfl ?_
          refine zr_aload_n C dX4_follow_142 (q := 143) rfl 1 rfl rfl ?_
          refine zr_aload_n C dX4_follow_143 (q := 144) rfl 3 rfl rfl ?_
          refine zr_iload_n C dX4_follow_144 (q := 145) rfl 4 rfl rfl ?_
          obtain ⟨r3, hc_145, h⟩ := zx_b1_so h
          refine zr_caI (q := 148) C (As := [.int p2]) (k := 44) (rest := [.ref (zz_d Z 45), .int v4_1, .int r2, .ref (zz_d Z 45)]) dX4_follow_145 (zX_ValueForm_left_met C.2.2.2.2.1 C.2.2.2.1 hc_145) zX_bX4_88_X8 zX_o44 ⟨by decide, by decide⟩ rfl (Nat.le_of_ble_eq_true rfl) rfl rfl ?_
          obtain ⟨hin_148, h⟩ := zx_ck_so h
          refine zr_iald C dX4_follow_148 (q := 149) zX_a45 hin_148 rfl ?_
          refine zr_aload_n C dX4_follow_149 (q := 150) rfl 1 rfl rfl ?_
          refine zr_aload_n C dX4_follow_150 (q := 151) rfl 3 rfl rfl ?_
          refine zr_iload_n C dX4_follow_151 (q := 152) rfl 4 rfl rfl ?_
          obtain ⟨r4, hc_152, h⟩ := zx_b1_so h
          refine zr_caI (q := 155) C (As := [.int p2]) (k := 44) (rest := [.ref (zz_d Z 45), .int (s 45 (r3).toNatClampNeg), .int v4_1, .int r2, .ref (zz_d Z 45)]) dX4_follow_152 (zX_ValueForm_right_met C.2.2.2.2.1 C.2.2.2.1 hc_152) zX_bX4_95_X8 zX_o44 ⟨by decide, by decide⟩ rfl (Nat.le_of_ble_eq_true rfl) rfl rfl ?_
          obtain ⟨hin_155, h⟩ := zx_ck_so h
          refine zr_iald C dX4_follow_155 (q := 156) zX_a45 hin_155 rfl ?_
          obtain ⟨r5, hc_156, h⟩ := zx_b1_so h
          refine zr_csI (q := 159) C (As := [.int v4_1, .int (s 45 (r3).toNatClampNeg), .int (s 45 (r4).toNatClampNeg)]) (rest := [.int r2, .ref (zz_d Z 45)]) dX4_follow_156 (zX_Machine_compute_met C.2.2.2.2.1 C.2.2.2.1 hc_156) zX_sX4_98 ⟨by decide, by decide⟩ rfl (Nat.le_of_ble_eq_true rfl) rfl rfl ?_
          obtain ⟨hin_159, h⟩ := zx_ck_so h
          refine zr_iast C dX4_follow_159 (q := 160) zX_a45 hin_159 rfl ?_
          refine zr_ls h (fun s6 h => ?_)
          exact zr_retV dX4_follow_160 h hr
theorem zX_Machine_follow_2_met {l : Launch} {D : va_G} {cz : ClassId × ClassId} {ad : Nat → Nat} (hS : zx_So zX_sd) (hi : zx_I zX_sd ad) {p2 : Int32} {s : zx_S} {s1 : zx_S} (h : zX_Machine_follow_2 p2 s = some s1) : zx_MV zX_sd l D cz ad yX4_follow cX4_follow 5 2 43 [.ref (ad 50), .ref (ad 44), .int p2] s s1 := zx_metV hS hi (by decide +kernel) rfl (Nat.le_of_ble_eq_true rfl) (fun Z e1 e2 e3 e4 C hr => by subst e1 e2 e3 e4; exact zX_Machine_follow_2_w C p2 s hr h)
set_option maxRecDepth 100000 in
set_option maxHeartbeats 4000000 in
theorem zX_Machine_followBlock_2_L13_w {Z : zx_Z} (C : zx_ok zX_sd Z cX4_followBlock 3 RX4 3 67) {r : Int32 × zx_S} {k46 : zx_S → Option (Int32 × zx_S)} (hr : zx_rI zX_sd Z cX4_followBlock 3 .boolean r.1 r.2) (h46 : ∀ (s1 : zx_S), k46 s1 = some r → zW zX_sd Z 3 46 [] [] s1) : ∀ (n : Nat) (v2 : Int32) (s : zx_S), zX_Machine_followBlock_2_L13 k46 n v2 s = some r → zW zX_sd Z 3 13 [(0, .ref (zz_d Z 50)), (1, .ref (zz_d Z 44)), (2, .int v2)] [] s := by
  intro n
  induction n with
  | zero => intro v2 s h; unfold zX_Machine_followBlock_2_L13 at h; cases h
  | succ n ih =>
    intro v2 s h
    unfold zX_Machine_followBlock_2_L13 at h
    refine zr_iload_n C dX4_followBlock_13 (q := 14) rfl 2 rfl rfl ?_
    refine zr_aload_n C dX4_followBlock_14 (q := 15) rfl 0 rfl rfl ?_
    refine zr_get C dX4_followBlock_15 (q := 18) zX_gX4_22_50 rfl ?_
    refine zr_get C dX4_followBlock_18 (q := 21) zX_gX4_68_1 rfl ?_
    refine zr_aload_n C dX4_followBlock_21 (q := 22) rfl 0 rfl rfl ?_
    refine zr_get C dX4_followBlock_22 (q := 25) zX_gX4_35_50 rfl ?_
    refine zr_iconst C dX4_followBlock_25 (q := 26) (v := (1 : Int32)) (by decide) rfl ?_
    refine zr_iadd C dX4_followBlock_26 (q := 27) rfl ?_
    obtain ⟨hin_27, h⟩ := zx_ck_so h
    refine zr_iald C dX4_followBlock_27 (q := 28) zX_a2 hin_27 rfl ?_
    refine zr_icmp_ge (tgt := 60) (q := 31) C dX4_followBlock_28 h (by decide) rfl (fun h => ?_) (fun h => ?_)
    · skip
      refine zr_iconst C dX4_followBlock_60 (q := 61) (v := (1 : Int32)) (by decide) rfl ?_
      exact zr_retZI dX4_followBlock_61 (Or.inr rfl) h hr
    · skip
      refine zr_aload_n C dX4_followBlock_31 (q := 32) rfl 1 rfl rfl ?_
      refine zr_iload_n C dX4_followBlock_32 (q := 33) rfl 2 rfl rfl ?_
      obtain ⟨r2, hc_33, h⟩ := zx_b1_so h
      refine zr_caI (q := 36) C (As := [.int v2]) (k := 44) (rest := []) dX4_followBlock_33 (zX_ValueForm_keeps_met C.2.2.2.2.1 C.2.2.2.1 hc_33) zX_bX4_71_X8 zX_o44 ⟨by decide, by decide⟩ rfl (Nat.le_of_ble_eq_true rfl) rfl rfl ?_
      refine zr_if_eq (tgt := 54) (q := 39) C dX4_followBlock_36 h (by decide) rfl (fun h => ?_) (fun h => ?_)
      · skip
        refine zr_iinc C dX4_followBlock_54 (q := 57) h (by decide) 2 rfl (by decide) (lw := fun v2_7 => [(2, .int v2_7), (0, .ref (zz_d Z 50)), (1, .ref (zz_d Z 44))]) (fun _ => rfl) rfl (fun v2_7 h => ?_)
        refine zr_goto (q := 13) C dX4_followBlock_57 (by decide) ?_
        exact zr_sub [1, 2, 0] rfl (ih v2_7 s h)
      · skip
        refine zr_aload_n C dX4_followBlock_39 (q := 40) rfl 0 rfl rfl ?_
        obtain ⟨r3, s4, hc_40, h⟩ := zx_b2_so h
        refine zr_cvI (q := 43) C (As := []) (k := 50) (rest := []) dX4_followBlock_40 (zX_Machine_pay_met C.2.2.2.2.1 C.2.2.2.1 hc_40) zX_vX4_48 zX_o50 ⟨by decide, by decide⟩ rfl (Nat.le_of_ble_eq_true rfl) rfl rfl ?_
        refine zr_if_ne (tgt := 48) (q := 46) C dX4_followBlock_43 h (by decide) rfl (fun h => ?_) (fun h => ?_)
        · skip
          refine zr_aload_n C dX4_followBlock_48 (q := 49) rfl 0 rfl rfl ?_
          refine zr_aload_n C dX4_followBlock_49 (q := 50) rfl 1 rfl rfl ?_
          refine zr_iload_n C dX4_followBlock_50 (q := 51) rfl 2 rfl rfl ?_
          obtain ⟨s5, hc_51, h⟩ := zx_b1_so h
          refine zr_cvV (q := 54) C (As := [.ref (zz_d Z 44), .int v2]) (k := 50) (rest := []) dX4_followBlock_51 (zX_Machine_follow_2_met C.2.2.2.2.1 C.2.2.2.1 hc_51) zX_vX4_75 zX_o50 ⟨by decide, by decide⟩ rfl (Nat.le_of_ble_eq_true rfl) rfl rfl ?_
          refine zr_iinc C dX4_followBlock_54 (q := 57) h (by decide) 2 rfl (by decide) (lw := fun v2_6 => [(2, .int v2_6), (0, .ref (zz_d Z 50)), (1, .ref (zz_d Z 44))]) (fun _ => rfl) rfl (fun v2_6 h => ?_)
          refine zr_goto (q := 13) C dX4_followBlock_57 (by decide) ?_
          exact zr_sub [1, 2, 0] rfl (ih v2_6 s5 h)
        · skip
          exact zr_sub [] rfl (h46 s4 h)
set_option maxRecDepth 100000 in
set_option maxHeartbeats 4000000 in
theorem zX_Machine_followBlock_2_w {Z : zx_Z} (C : zx_ok zX_sd Z cX4_followBlock 3 RX4 3 67) {r : Int32 × zx_S} (s : zx_S) (hr : zx_rI zX_sd Z cX4_followBlock 3 .boolean r.1 r.2) (h : zX_Machine_followBlock_2 s = some r) : zW zX_sd Z 3 0 [(0, .ref (zz_d Z 50)), (1, .ref (zz_d Z 44))] [] s := by
  unfold zX_Machine_followBlock_2 at h
  refine zr_aload_n C dX4_followBlock_0 (q := 1) rfl 0 rfl rfl ?_
  refine zr_get C dX4_followBlock_1 (q := 4) zX_gX4_22_50 rfl ?_
  refine zr_get C dX4_followBlock_4 (q := 7) zX_gX4_68_1 rfl ?_
  refine zr_aload_n C dX4_followBlock_7 (q := 8) rfl 0 rfl rfl ?_
  refine zr_get C dX4_followBlock_8 (q := 11) zX_gX4_35_50 rfl ?_
  obtain ⟨hin_11, h⟩ := zx_ck_so h
  refine zr_iald C dX4_followBlock_11 (q := 12) zX_a2 hin_11 rfl ?_
  refine zr_top h (fun v2_1 h => ?_)
  refine zr_istore_n C dX4_followBlock_12 (q := 13) rfl (by decide) (lv' := [(2, .int v2_1), (0, .ref (zz_d Z 50)), (1, .ref (zz_d Z 44))]) rfl rfl ?_
  refine zr_sub [1, 2, 0] rfl (zX_Machine_followBlock_2_L13_w C hr (fun s8 h => ?_) 10000 v2_1 s h)
  · skip
    refine zr_iconst C dX4_followBlock_46 (q := 47) (v := (0 : Int32)) (by decide) rfl ?_
    exact zr_retZI dX4_followBlock_47 (Or.inl rfl) h hr
theorem zX_Machine_followBlock_2_met {l : Launch} {D : va_G} {cz : ClassId × ClassId} {ad : Nat → Nat} (hS : zx_So zX_sd) (hi : zx_I zX_sd ad) {s : zx_S} {v : Int32} {s1 : zx_S} (h : zX_Machine_followBlock_2 s = some (v, s1)) : zx_MI zX_sd l D cz ad yX4_followBlock cX4_followBlock 3 .boolean 3 67 [.ref (ad 50), .ref (ad 44)] s v s1 := zx_metI hS hi (by decide +kernel) rfl (Nat.le_of_ble_eq_true rfl) (fun Z e1 e2 e3 e4 C hr => by subst e1 e2 e3 e4; exact zX_Machine_followBlock_2_w (r := (v, s1)) C s hr h)
set_option maxRecDepth 100000 in
set_option maxHeartbeats 4000000 in
theorem zX_ValueForm_endCell_w {Z : zx_Z} (C : zx_ok zX_sd Z cX8_endCell 2 RX8 0 0) {r : Int32} (p1 : Int32) (s : zx_S) (hr : zx_rI zX_sd Z cX8_endCell 2 .int r s) (h : zX_ValueForm_endCell p1 s = some r) : zW zX_sd Z 2 0 [(0, .ref (zz_d Z 44)), (1, .int p1)] [] s := by
  unfold zX_ValueForm_endCell at h
  refine zr_aload_n C dX8_endCell_0 (q := 1) rfl 0 rfl rfl ?_
  refine zr_get C dX8_endCell_1 (q := 4) zX_gX8_40_44 rfl ?_
  refine zr_get C dX8_endCell_4 (q := 7) zX_gX8_92_24 rfl ?_
  refine zr_iload_n C dX8_endCell_7 (q := 8) rfl 1 rfl rfl ?_
  obtain ⟨hin_8, h⟩ := zx_ck_so h
  refine zr_iald C dX8_endCell_8 (q := 9) zX_a27 hin_8 rfl ?_
  exact zr_retR dX8_endCell_9 h hr
theorem zX_ValueForm_endCell_met {l : Launch} {D : va_G} {cz : ClassId × ClassId} {ad : Nat → Nat} (hS : zx_So zX_sd) (hi : zx_I zX_sd ad) {p1 : Int32} {s : zx_S} {v : Int32} (h : zX_ValueForm_endCell p1 s = some v) : zx_MI zX_sd l D cz ad yX8_endCell cX8_endCell 2 .int 0 0 [.ref (ad 44), .int p1] s v s := zx_metI hS hi (by decide +kernel) rfl (Nat.le_of_ble_eq_true rfl) (fun Z e1 e2 e3 e4 C hr => by subst e1 e2 e3 e4; exact zX_ValueForm_endCell_w C p1 s hr h)
set_option maxRecDepth 100000 in
set_option maxHeartbeats 4000000 in
theorem zX_Machine_perform_2_J94_w {Z : zx_Z} (C : zx_ok zX_sd Z cX4_perform 6 RX4 4 89) {r : Int32 × zx_S} (v3 v4 t0 : Int32) (s : zx_S) {k24 : Int32 → Int32 → zx_S → Option (Int32 × zx_S)} {k101 : Int32 → zx_S → Option (Int32 × zx_S)} (hr : zx_rI zX_sd Z cX4_perform 6 .int r.1 r.2) (h24 : ∀ (a0 : Int32) (a1 : Int32) (s1 : zx_S), k24 a0 a1 s1 = some r → zW zX_sd Z 6 24 [(0, .ref (zz_d Z 50)), (1, .ref (zz_d Z 44)), (2, .int a0), (3, .int a1)] [] s1) (h101 : ∀ (a0 : Int32) (s1 : zx_S), k101 a0 s1 = some r → zW zX_sd Z 6 101 [(0, .ref (zz_d Z 50)), (5, .int a0)] [] s1) (h : zX_Machine_perform_2_J94 k24 k101 v3 v4 t0 s = some r) : zW zX_sd Z 6 94 [(0, .ref (zz_d Z 50)), (1, .ref (zz_d Z 44)), (3, .int v3), (4, .int v4)] [.int t0] s := by
  unfold zX_Machine_perform_2_J94 at h
  refine zr_istore C dX4_perform_94 (q := 96) (by decide) (lv' := [(5, .int t0), (0, .ref (zz_d Z 50)), (1, .ref (zz_d Z 44)), (3, .int v3), (4, .int v4)]) rfl rfl ?_
  refine zr_iload C dX4_perform_96 (q := 98) 4 rfl rfl ?_
  refine zr_if_ne (tgt := 109) (q := 101) C dX4_perform_98 h (by decide) rfl (fun h => ?_) (fun h => ?_)
  · skip
    refine zr_aload_n C dX4_perform_109 (q := 110) rfl 1 rfl rfl ?_
    refine zr_get C dX4_perform_110 (q := 113) zX_gX4_35_50 rfl ?_
    refine zr_top h (fun v2_11 h => ?_)
    refine zr_istore_n C dX4_perform_113 (q := 114) rfl (by decide) (lv' := [(2, .int v2_11), (5, .int t0), (0, .ref (zz_d Z 50)), (1, .ref (zz_d Z 44)), (3, .int v3), (4, .int v4)]) rfl rfl ?_
    refine zr_aload_n C dX4_perform_114 (q := 115) rfl 2 rfl rfl ?_
    refine zr_aload_n C dX4_perform_115 (q := 116) rfl 2 rfl rfl ?_
    refine zr_get C dX4_perform_116 (q := 119) zX_gX4_22_50 rfl ?_
    refine zr_aload_n C dX4_perform_119 (q := 120) rfl 2 rfl rfl ?_
    refine zr_get C dX4_perform_120 (q := 123) zX_gX4_35_50 rfl ?_
    refine zr_iload C dX4_perform_123 (q := 125) 1 rfl rfl ?_
    refine zr_if_eq (tgt := 132) (q := 128) C dX4_perform_125 h (by decide) rfl (fun h => ?_) (fun h => ?_)
    · skip
      refine zr_iconst C dX4_perform_132 (q := 133) (v := (0 : Int32)) (by decide) rfl ?_
      obtain ⟨r15, hc_133, h⟩ := zx_b1_so h
      refine zr_cvI (q := 136) C (As := [.int (s 50 7), .int (0 : Int32)]) (k := 1) (rest := [.ref (zz_d Z 50)]) dX4_perform_133 (zX_Program_next_met C.2.2.2.2.1 C.2.2.2.1 hc_133) zX_vX4_64 zX_o1 ⟨by decide, by decide⟩ rfl (Nat.le_of_ble_eq_true rfl) rfl rfl ?_
      refine zr_put C dX4_perform_136 (q := 139) zX_pX4_35_50 rfl rfl rfl ?_
      refine zr_ls h (fun s16 h => ?_)
      refine zr_iinc C dX4_perform_139 (q := 142) h (by decide) 4 rfl (by decide) (lw := fun v3_17 => [(3, .int v3_17), (2, .int v2_11), (5, .int t0), (0, .ref (zz_d Z 50)), (1, .ref (zz_d Z 44)), (4, .int v4)]) (fun _ => rfl) rfl (fun v3_17 h => ?_)
      refine zr_goto (q := 24) C dX4_perform_142 (by decide) ?_
      exact zr_sub [3, 4, 1, 0] rfl (h24 v2_11 v3_17 s16 h)
    · skip
      refine zr_iconst C dX4_perform_128 (q := 129) (v := (1 : Int32)) (by decide) rfl ?_
      refine zr_goto (q := 133) C dX4_perform_129 (by decide) ?_
      obtain ⟨r12, hc_133, h⟩ := zx_b1_so h
      refine zr_cvI (q := 136) C (As := [.int (s 50 7), .int (1 : Int32)]) (k := 1) (rest := [.ref (zz_d Z 50)]) dX4_perform_133 (zX_Program_next_met C.2.2.2.2.1 C.2.2.2.1 hc_133) zX_vX4_64 zX_o1 ⟨by decide, by decide⟩ rfl (Nat.le_of_ble_eq_true rfl) rfl rfl ?_
      refine zr_put C dX4_perform_136 (q := 139) zX_pX4_35_50 rfl rfl rfl ?_
      refine zr_ls h (fun s13 h => ?_)
      refine zr_iinc C dX4_perform_139 (q := 142) h (by decide) 4 rfl (by decide) (lw := fun v3_14 => [(3, .int v3_14), (2, .int v2_11), (5, .int t0), (0, .ref (zz_d Z 50)), (1, .ref (zz_d Z 44)), (4, .int v4)]) (fun _ => rfl) rfl (fun v3_14 h => ?_)
      refine zr_goto (q := 24) C dX4_perform_142 (by decide) ?_
      exact zr_sub [3, 4, 1, 0] rfl (h24 v2_11 v3_14 s13 h)
  · skip
    exact zr_sub [1, 0] rfl (h101 t0 s h)
set_option maxRecDepth 100000 in
set_option maxHeartbeats 4000000 in
theorem zX_Machine_perform_2_L24_w {Z : zx_Z} (C : zx_ok zX_sd Z cX4_perform 6 RX4 4 89) {r : Int32 × zx_S} {k101 : Int32 → zx_S → Option (Int32 × zx_S)} (hr : zx_rI zX_sd Z cX4_perform 6 .int r.1 r.2) (h101 : ∀ (a0 : Int32) (s1 : zx_S), k101 a0 s1 = some r → zW zX_sd Z 6 101 [(0, .ref (zz_d Z 50)), (5, .int a0)] [] s1) : ∀ (n : Nat) (v2 : Int32) (v3 : Int32) (s : zx_S), zX_Machine_perform_2_L24 k101 n v2 v3 s = some r → zW zX_sd Z 6 24 [(0, .ref (zz_d Z 50)), (1, .ref (zz_d Z 44)), (2, .int v2), (3, .int v3)] [] s := by
  intro n
  induction n with
  | zero => intro v2 v3 s h; unfold zX_Machine_perform_2_L24 at h; cases h
  | succ n ih =>
    intro v2 v3 s h
    unfold zX_Machine_perform_2_L24 at h
    refine zr_iload_n C dX4_perform_24 (q := 25) rfl 3 rfl rfl ?_
    refine zr_aload_n C dX4_perform_25 (q := 26) rfl 0 rfl rfl ?_
    refine zr_get C dX4_perform_26 (q := 29) zX_gX4_18_50 rfl ?_
    refine zr_icmp_gt (tgt := 145) (q := 32) C dX4_perform_29 h (by decide) rfl (fun h => ?_) (fun h => ?_)
    · skip
      refine zr_iconst C dX4_perform_145 (q := 146) (v := (1 : Int32)) (by decide) rfl ?_
      exact zr_retI dX4_perform_146 h hr
    · skip
      refine zr_aload_n C dX4_perform_32 (q := 33) rfl 1 rfl rfl ?_
      refine zr_iload_n C dX4_perform_33 (q := 34) rfl 2 rfl rfl ?_
      refine zr_aload_n C dX4_perform_34 (q := 35) rfl 0 rfl rfl ?_
      refine zr_get C dX4_perform_35 (q := 38) zX_gX4_35_50 rfl ?_
      obtain ⟨s5, hc_38, h⟩ := zx_b1_so h
      refine zr_caV (q := 41) C (As := [.int v2, .int (s 50 7)]) (k := 44) (rest := []) dX4_perform_38 (zX_ValueForm_begin_met C.2.2.2.2.1 C.2.2.2.1 hc_38) zX_bX4_38_X8 zX_o44 ⟨by decide, by decide⟩ rfl (Nat.le_of_ble_eq_true rfl) rfl rfl ?_
      refine zr_aload_n C dX4_perform_41 (q := 42) rfl 0 rfl rfl ?_
      refine zr_aload_n C dX4_perform_42 (q := 43) rfl 1 rfl rfl ?_
      obtain ⟨r6, s7, hc_43, h⟩ := zx_b2_so h
      refine zr_cvI (q := 46) C (As := [.ref (zz_d Z 44)]) (k := 50) (rest := []) dX4_perform_43 (zX_Machine_followBlock_2_met C.2.2.2.2.1 C.2.2.2.1 hc_43) zX_vX4_44 zX_o50 ⟨by decide, by decide⟩ rfl (Nat.le_of_ble_eq_true rfl) rfl rfl ?_
      refine zr_if_eq (tgt := 56) (q := 49) C dX4_perform_46 h (by decide) rfl (fun h => ?_) (fun h => ?_)
      · skip
        refine zr_iconst C dX4_perform_56 (q := 57) (v := (1 : Int32)) (by decide) rfl ?_
        exact zr_retI dX4_perform_57 h hr
      · skip
        refine zr_aload_n C dX4_perform_49 (q := 50) rfl 0 rfl rfl ?_
        obtain ⟨r8, s9, hc_50, h⟩ := zx_b2_so h
        refine zr_cvI (q := 53) C (As := []) (k := 50) (rest := []) dX4_perform_50 (zX_Machine_pay_met C.2.2.2.2.1 C.2.2.2.1 hc_50) zX_vX4_48 zX_o50 ⟨by decide, by decide⟩ rfl (Nat.le_of_ble_eq_true rfl) rfl rfl ?_
        refine zr_if_ne (tgt := 58) (q := 56) C dX4_perform_53 h (by decide) rfl (fun h => ?_) (fun h => ?_)
        · skip
          refine zr_aload_n C dX4_perform_58 (q := 59) rfl 0 rfl rfl ?_
          refine zr_get C dX4_perform_59 (q := 62) zX_gX4_22_50 rfl ?_
          refine zr_aload_n C dX4_perform_62 (q := 63) rfl 0 rfl rfl ?_
          refine zr_get C dX4_perform_63 (q := 66) zX_gX4_35_50 rfl ?_
          obtain ⟨r10, hc_66, h⟩ := zx_b1_so h
          refine zr_cvI (q := 69) C (As := [.int (s9 50 7)]) (k := 1) (rest := []) dX4_perform_66 (zX_Program_howCounts_met C.2.2.2.2.1 C.2.2.2.1 hc_66) zX_vX4_52 zX_o1 ⟨by decide, by decide⟩ rfl (Nat.le_of_ble_eq_true rfl) rfl rfl ?_
          refine zr_istore C dX4_perform_69 (q := 71) (by decide) (lv' := [(4, .int r10), (0, .ref (zz_d Z 50)), (1, .ref (zz_d Z 44)), (2, .int v2), (3, .int v3)]) rfl rfl ?_
          refine zr_iload C dX4_perform_71 (q := 73) 0 rfl rfl ?_
          refine zr_iconst C dX4_perform_73 (q := 74) (v := (1 : Int32)) (by decide) rfl ?_
          refine zr_icmp_ne (tgt := 81) (q := 77) C dX4_perform_74 h (by decide) rfl (fun h => ?_) (fun h => ?_)
          · skip
            refine zr_aload_n C dX4_perform_81 (q := 82) rfl 2 rfl rfl ?_
            refine zr_get C dX4_perform_82 (q := 85) zX_gX4_58_44 rfl ?_
            refine zr_aload_n C dX4_perform_85 (q := 86) rfl 2 rfl rfl ?_
            refine zr_aload_n C dX4_perform_86 (q := 87) rfl 1 rfl rfl ?_
            refine zr_get C dX4_perform_87 (q := 90) zX_gX4_35_50 rfl ?_
            obtain ⟨r18, hc_90, h⟩ := zx_b1_so h
            refine zr_caI (q := 93) C (As := [.int (s9 50 7)]) (k := 44) (rest := [.ref (zz_d Z 45)]) dX4_perform_90 (zX_ValueForm_endCell_met C.2.2.2.2.1 C.2.2.2.1 hc_90) zX_bX4_61_X8 zX_o44 ⟨by decide, by decide⟩ rfl (Nat.le_of_ble_eq_true rfl) rfl rfl ?_
            obtain ⟨hin_93, h⟩ := zx_ck_so h
            refine zr_iald C dX4_perform_93 (q := 94) zX_a45 hin_93 rfl ?_
            exact zr_sub [1, 2, 4, 0] rfl (zX_Machine_perform_2_J94_w C v3 r10 (s9 45 (r18).toNatClampNeg) s9 hr (ih) (h101) h)
          · skip
            refine zr_iconst C dX4_perform_77 (q := 78) (v := (0 : Int32)) (by decide) rfl ?_
            refine zr_goto (q := 94) C dX4_perform_78 (by decide) ?_
            exact zr_sub [1, 2, 4, 0] rfl (zX_Machine_perform_2_J94_w C v3 r10 (0 : Int32) s9 hr (ih) (h101) h)
        · skip
          refine zr_iconst C dX4_perform_56 (q := 57) (v := (1 : Int32)) (by decide) rfl ?_
          exact zr_retI dX4_perform_57 h hr
set_option maxRecDepth 100000 in
set_option maxHeartbeats 4000000 in
theorem zX_Machine_perform_2_w {Z : zx_Z} (C : zx_ok zX_sd Z cX4_perform 6 RX4 4 89) {r : Int32 × zx_S} (s : zx_S) (hr : zx_rI zX_sd Z cX4_perform 6 .int r.1 r.2) (h : zX_Machine_perform_2 s = some r) : zW zX_sd Z 6 0 [(0, .ref (zz_d Z 50)), (1, .ref (zz_d Z 44))] [] s := by
  unfold zX_Machine_perform_2 at h
  refine zr_aload_n C dX4_perform_0 (q := 1) rfl 0 rfl rfl ?_
  refine zr_iconst C dX4_perform_1 (q := 2) (v := (0 : Int32)) (by decide) rfl ?_
  refine zr_put C dX4_perform_2 (q := 5) zX_pX4_26_50 rfl rfl rfl ?_
  refine zr_ls h (fun s1 h => ?_)
  refine zr_aload_n C dX4_perform_5 (q := 6) rfl 0 rfl rfl ?_
  refine zr_iconst C dX4_perform_6 (q := 7) (v := (0 : Int32)) (by decide) rfl ?_
  refine zr_put C dX4_perform_7 (q := 10) zX_pX4_29_50 rfl rfl rfl ?_
  refine zr_ls h (fun s2 h => ?_)
  refine zr_aload_n C dX4_perform_10 (q := 11) rfl 0 rfl rfl ?_
  refine zr_iconst C dX4_perform_11 (q := 12) (v := (0 : Int32)) (by decide) rfl ?_
  refine zr_put C dX4_perform_12 (q := 15) zX_pX4_32_50 rfl rfl rfl ?_
  refine zr_ls h (fun s3 h => ?_)
  refine zr_aload_n C dX4_perform_15 (q := 16) rfl 0 rfl rfl ?_
  refine zr_iconst C dX4_perform_16 (q := 17) (v := (0 : Int32)) (by decide) rfl ?_
  refine zr_put C dX4_perform_17 (q := 20) zX_pX4_35_50 rfl rfl rfl ?_
  refine zr_ls h (fun s4 h => ?_)
  refine zr_iconst C dX4_perform_20 (q := 21) (v := (-1 : Int32)) (by decide) rfl ?_
  refine zr_istore_n C dX4_perform_21 (q := 22) rfl (by decide) (lv' := [(2, .int (-1 : Int32)), (0, .ref (zz_d Z 50)), (1, .ref (zz_d Z 44))]) rfl rfl ?_
  refine zr_iconst C dX4_perform_22 (q := 23) (v := (0 : Int32)) (by decide) rfl ?_
  refine zr_istore_n C dX4_perform_23 (q := 24) rfl (by decide) (lv' := [(3, .int (0 : Int32)), (2, .int (-1 : Int32)), (0, .ref (zz_d Z 50)), (1, .ref (zz_d Z 44))]) rfl rfl ?_
  refine zr_sub [2, 3, 1, 0] rfl (zX_Machine_perform_2_L24_w C hr (fun v5_19 s20 h => ?_) 10000 (-1 : Int32) (0 : Int32) s4 h)
  · skip
    refine zr_aload_n C dX4_perform_101 (q := 102) rfl 0 rfl rfl ?_
    refine zr_iload C dX4_perform_102 (q := 104) 1 rfl rfl ?_
    refine zr_put C dX4_perform_104 (q := 107) zX_pX4_26_50 rfl rfl rfl ?_
    refine zr_ls h (fun s21 h => ?_)
    refine zr_iconst C dX4_perform_107 (q := 108) (v := (0 : Int32)) (by decide) rfl ?_
    exact zr_retI dX4_perform_108 h hr
theorem zX_Machine_perform_2_met {l : Launch} {D : va_G} {cz : ClassId × ClassId} {ad : Nat → Nat} (hS : zx_So zX_sd) (hi : zx_I zX_sd ad) {s : zx_S} {v : Int32} {s1 : zx_S} (h : zX_Machine_perform_2 s = some (v, s1)) : zx_MI zX_sd l D cz ad yX4_perform cX4_perform 6 .int 4 89 [.ref (ad 50), .ref (ad 44)] s v s1 := zx_metI hS hi (by decide +kernel) rfl (Nat.le_of_ble_eq_true rfl) (fun Z e1 e2 e3 e4 C hr => by subst e1 e2 e3 e4; exact zX_Machine_perform_2_w (r := (v, s1)) C s hr h)
set_option maxRecDepth 100000 in
set_option maxHeartbeats 4000000 in
theorem zX_ValueForm_goes_2_w {Z : zx_Z} (C : zx_ok zX_sd Z cX8_goes 2 RX8 0 0) {r : Int32} (p1 : Int32) (s : zx_S) (hr : zx_rI zX_sd Z cX8_goes 2 .boolean r s) (h : zX_ValueForm_goes_2 p1 s = some r) : zW zX_sd Z 2 0 [(0, .ref (zz_d Z 47)), (1, .int p1)] [] s := by
  unfold zX_ValueForm_goes_2 at h
  refine zr_aload_n C dX8_goes_0 (q := 1) rfl 0 rfl rfl ?_
  refine zr_get C dX8_goes_1 (q := 4) zX_gX8_27_47 rfl ?_
  refine zr_ifnull (q := 7) C dX8_goes_4 rfl ?_
  refine zr_aload_n C dX8_goes_7 (q := 8) rfl 0 rfl rfl ?_
  refine zr_get C dX8_goes_8 (q := 11) zX_gX8_27_47 rfl ?_
  refine zr_get C dX8_goes_11 (q := 14) zX_gX8_41_36 rfl ?_
  refine zr_iload_n C dX8_goes_14 (q := 15) rfl 1 rfl rfl ?_
  obtain ⟨hin_15, h⟩ := zx_ck_so h
  refine zr_zald C dX8_goes_15 (q := 16) zX_a37 hin_15 rfl ?_
  refine zr_if_eq (tgt := 23) (q := 19) C dX8_goes_16 h (by decide) rfl (fun h => ?_) (fun h => ?_)
  · skip
    refine zr_iconst C dX8_goes_23 (q := 24) (v := (0 : Int32)) (by decide) rfl ?_
    exact zr_retZR dX8_goes_24 (Or.inl rfl) h hr
  · skip
    refine zr_iconst C dX8_goes_19 (q := 20) (v := (1 : Int32)) (by decide) rfl ?_
    refine zr_goto (q := 24) C dX8_goes_20 (by decide) ?_
    exact zr_retZR dX8_goes_24 (Or.inr rfl) h hr
theorem zX_ValueForm_goes_2_met {l : Launch} {D : va_G} {cz : ClassId × ClassId} {ad : Nat → Nat} (hS : zx_So zX_sd) (hi : zx_I zX_sd ad) {p1 : Int32} {s : zx_S} {v : Int32} (h : zX_ValueForm_goes_2 p1 s = some v) : zx_MI zX_sd l D cz ad yX8_goes cX8_goes 2 .boolean 0 0 [.ref (ad 47), .int p1] s v s := zx_metI hS hi (by decide +kernel) rfl (Nat.le_of_ble_eq_true rfl) (fun Z e1 e2 e3 e4 C hr => by subst e1 e2 e3 e4; exact zX_ValueForm_goes_2_w C p1 s hr h)
set_option maxRecDepth 100000 in
set_option maxHeartbeats 4000000 in
theorem zX_ValueForm_begin_2_L56_w {Z : zx_Z} (C : zx_ok zX_sd Z cX8_begin 8 RX8 2 41) {r : zx_S} (v3 v4 v6 : Int32) {k116 : zx_S → Option zx_S} (hr : zx_rV zX_sd Z cX8_begin 8 r) (h116 : ∀ (s1 : zx_S), k116 s1 = some r → zW zX_sd Z 8 116 [(0, .ref (zz_d Z 47)), (3, .int v3), (4, .int v4)] [] s1) : ∀ (n : Nat) (v7 : Int32) (s : zx_S), zX_ValueForm_begin_2_L56 v3 v4 v6 k116 n v7 s = some r → zW zX_sd Z 8 56 [(0, .ref (zz_d Z 47)), (3, .int v3), (4, .int v4), (6, .int v6), (7, .int v7)] [] s := by
  intro n
  induction n with
  | zero => intro v7 s h; unfold zX_ValueForm_begin_2_L56 at h; cases h
  | succ n ih =>
    intro v7 s h
    unfold zX_ValueForm_begin_2_L56 at h
    refine zr_iload C dX8_begin_56 (q := 58) 4 rfl rfl ?_
    refine zr_iload_n C dX8_begin_58 (q := 59) rfl 1 rfl rfl ?_
    refine zr_icmp_ge (tgt := 116) (q := 62) C dX8_begin_59 h (by decide) rfl (fun h => ?_) (fun h => ?_)
    · skip
      exact zr_sub [0, 1, 2] rfl (h116 s h)
    · skip
      refine zr_aload_n C dX8_begin_62 (q := 63) rfl 0 rfl rfl ?_
      refine zr_iload C dX8_begin_63 (q := 65) 2 rfl rfl ?_
      refine zr_iload C dX8_begin_65 (q := 67) 4 rfl rfl ?_
      refine zr_iadd C dX8_begin_67 (q := 68) rfl ?_
      obtain ⟨r4, hc_68, h⟩ := zx_b1_so h
      refine zr_cvI (q := 71) C (As := [.int (v4 + v7)]) (k := 47) (rest := []) dX8_begin_68 (zX_ValueForm_goes_2_met C.2.2.2.2.1 C.2.2.2.1 hc_68) zX_vX8_66 zX_o47 ⟨by decide, by decide⟩ rfl (Nat.le_of_ble_eq_true rfl) rfl rfl ?_
      refine zr_if_ne (tgt := 110) (q := 74) C dX8_begin_71 h (by decide) rfl (fun h => ?_) (fun h => ?_)
      · skip
        refine zr_iinc C dX8_begin_110 (q := 113) h (by decide) 4 rfl (by decide) (lw := fun v7_8 => [(7, .int v7_8), (0, .ref (zz_d Z 47)), (3, .int v3), (4, .int v4), (6, .int v6)]) (fun _ => rfl) rfl (fun v7_8 h => ?_)
        refine zr_goto (q := 56) C dX8_begin_113 (by decide) ?_
        exact zr_sub [1, 2, 3, 4, 0] rfl (ih v7_8 s h)
      · skip
        refine zr_aload_n C dX8_begin_74 (q := 75) rfl 0 rfl rfl ?_
        refine zr_get C dX8_begin_75 (q := 78) zX_gX8_9_47 rfl ?_
        refine zr_iload C dX8_begin_78 (q := 80) 4 rfl rfl ?_
        refine zr_aload_n C dX8_begin_80 (q := 81) rfl 0 rfl rfl ?_
        refine zr_get C dX8_begin_81 (q := 84) zX_gX8_70_47 rfl ?_
        refine zr_aload_n C dX8_begin_84 (q := 85) rfl 0 rfl rfl ?_
        refine zr_get C dX8_begin_85 (q := 88) zX_gX8_40_47 rfl ?_
        refine zr_get C dX8_begin_88 (q := 91) zX_gX8_73_38 rfl ?_
        refine zr_aload_n C dX8_begin_91 (q := 92) rfl 0 rfl rfl ?_
        refine zr_get C dX8_begin_92 (q := 95) zX_gX8_23_47 rfl ?_
        refine zr_get C dX8_begin_95 (q := 98) zX_gX8_78_18 rfl ?_
        refine zr_iload C dX8_begin_98 (q := 100) 2 rfl rfl ?_
        refine zr_iload C dX8_begin_100 (q := 102) 4 rfl rfl ?_
        refine zr_iadd C dX8_begin_102 (q := 103) rfl ?_
        obtain ⟨hin_103, h⟩ := zx_ck_so h
        refine zr_iald C dX8_begin_103 (q := 104) zX_a23 hin_103 rfl ?_
        refine zr_iload C dX8_begin_104 (q := 106) 3 rfl rfl ?_
        refine zr_iadd C dX8_begin_106 (q := 107) rfl ?_
        obtain ⟨hin_107, h⟩ := zx_ck_so h
        refine zr_iald C dX8_begin_107 (q := 108) zX_a39 hin_107 rfl ?_
        obtain ⟨hin_108, h⟩ := zx_ck_so h
        refine zr_iald C dX8_begin_108 (q := 109) zX_a48 hin_108 rfl ?_
        refine zr_top h (fun x5 h => ?_)
        obtain ⟨hin_109, h⟩ := zx_ck_so h
        refine zr_iast C dX8_begin_109 (q := 110) zX_a49 hin_109 rfl ?_
        refine zr_ls h (fun s6 h => ?_)
        refine zr_iinc C dX8_begin_110 (q := 113) h (by decide) 4 rfl (by decide) (lw := fun v7_7 => [(7, .int v7_7), (0, .ref (zz_d Z 47)), (3, .int v3), (4, .int v4), (6, .int v6)]) (fun _ => rfl) rfl (fun v7_7 h => ?_)
        refine zr_goto (q := 56) C dX8_begin_113 (by decide) ?_
        exact zr_sub [1, 2, 3, 4, 0] rfl (ih v7_7 s6 h)
set_option maxRecDepth 100000 in
set_option maxHeartbeats 4000000 in
theorem zX_ValueForm_begin_2_L119_w {Z : zx_Z} (C : zx_ok zX_sd Z cX8_begin 8 RX8 2 41) {r : zx_S} (v3 v4 : Int32) {k160 : zx_S → Option zx_S} (hr : zx_rV zX_sd Z cX8_begin 8 r) (h160 : ∀ (s1 : zx_S), k160 s1 = some r → zW zX_sd Z 8 160 [] [] s1) : ∀ (n : Nat) (v7 : Int32) (s : zx_S), zX_ValueForm_begin_2_L119 v3 v4 k160 n v7 s = some r → zW zX_sd Z 8 119 [(0, .ref (zz_d Z 47)), (3, .int v3), (4, .int v4), (7, .int v7)] [] s := by
  intro n
  induction n with
  | zero => intro v7 s h; unfold zX_ValueForm_begin_2_L119 at h; cases h
  | succ n ih =>
    intro v7 s h
    unfold zX_ValueForm_begin_2_L119 at h
    refine zr_iload C dX8_begin_119 (q := 121) 3 rfl rfl ?_
    refine zr_iload_n C dX8_begin_121 (q := 122) rfl 1 rfl rfl ?_
    refine zr_icmp_ge (tgt := 160) (q := 125) C dX8_begin_122 h (by decide) rfl (fun h => ?_) (fun h => ?_)
    · skip
      exact zr_sub [] rfl (h160 s h)
    · skip
      refine zr_aload_n C dX8_begin_125 (q := 126) rfl 0 rfl rfl ?_
      refine zr_iload C dX8_begin_126 (q := 128) 2 rfl rfl ?_
      refine zr_iload C dX8_begin_128 (q := 130) 3 rfl rfl ?_
      refine zr_iadd C dX8_begin_130 (q := 131) rfl ?_
      obtain ⟨r10, hc_131, h⟩ := zx_b1_so h
      refine zr_cvI (q := 134) C (As := [.int (v4 + v7)]) (k := 47) (rest := []) dX8_begin_131 (zX_ValueForm_goes_2_met C.2.2.2.2.1 C.2.2.2.1 hc_131) zX_vX8_66 zX_o47 ⟨by decide, by decide⟩ rfl (Nat.le_of_ble_eq_true rfl) rfl rfl ?_
      refine zr_if_ne (tgt := 154) (q := 137) C dX8_begin_134 h (by decide) rfl (fun h => ?_) (fun h => ?_)
      · skip
        refine zr_iinc C dX8_begin_154 (q := 157) h (by decide) 3 rfl (by decide) (lw := fun v7_14 => [(7, .int v7_14), (0, .ref (zz_d Z 47)), (3, .int v3), (4, .int v4)]) (fun _ => rfl) rfl (fun v7_14 h => ?_)
        refine zr_goto (q := 119) C dX8_begin_157 (by decide) ?_
        exact zr_sub [1, 2, 3, 0] rfl (ih v7_14 s h)
      · skip
        refine zr_aload_n C dX8_begin_137 (q := 138) rfl 0 rfl rfl ?_
        refine zr_get C dX8_begin_138 (q := 141) zX_gX8_70_47 rfl ?_
        refine zr_iload C dX8_begin_141 (q := 143) 2 rfl rfl ?_
        refine zr_iload C dX8_begin_143 (q := 145) 3 rfl rfl ?_
        refine zr_iadd C dX8_begin_145 (q := 146) rfl ?_
        refine zr_aload_n C dX8_begin_146 (q := 147) rfl 0 rfl rfl ?_
        refine zr_get C dX8_begin_147 (q := 150) zX_gX8_9_47 rfl ?_
        refine zr_iload C dX8_begin_150 (q := 152) 3 rfl rfl ?_
        obtain ⟨hin_152, h⟩ := zx_ck_so h
        refine zr_iald C dX8_begin_152 (q := 153) zX_a49 hin_152 rfl ?_
        refine zr_top h (fun x11 h => ?_)
        obtain ⟨hin_153, h⟩ := zx_ck_so h
        refine zr_iast C dX8_begin_153 (q := 154) zX_a48 hin_153 rfl ?_
        refine zr_ls h (fun s12 h => ?_)
        refine zr_iinc C dX8_begin_154 (q := 157) h (by decide) 3 rfl (by decide) (lw := fun v7_13 => [(7, .int v7_13), (0, .ref (zz_d Z 47)), (3, .int v3), (4, .int v4)]) (fun _ => rfl) rfl (fun v7_13 h => ?_)
        refine zr_goto (q := 119) C dX8_begin_157 (by decide) ?_
        exact zr_sub [1, 2, 3, 0] rfl (ih v7_13 s12 h)
set_option maxRecDepth 100000 in
set_option maxHeartbeats 4000000 in
theorem zX_ValueForm_begin_2_J51_w {Z : zx_Z} (C : zx_ok zX_sd Z cX8_begin 8 RX8 2 41) {r : zx_S} (v3 v4 t0 : Int32) (s : zx_S) (hr : zx_rV zX_sd Z cX8_begin 8 r) (h : zX_ValueForm_begin_2_J51 v3 v4 t0 s = some r) : zW zX_sd Z 8 51 [(0, .ref (zz_d Z 47)), (3, .int v3), (4, .int v4)] [.int t0] s := by
  unfold zX_ValueForm_begin_2_J51 at h
  refine zr_istore C dX8_begin_51 (q := 53) (by decide) (lv' := [(6, .int t0), (0, .ref (zz_d Z 47)), (3, .int v3), (4, .int v4)]) rfl rfl ?_
  refine zr_iconst C dX8_begin_53 (q := 54) (v := (0 : Int32)) (by decide) rfl ?_
  refine zr_istore C dX8_begin_54 (q := 56) (by decide) (lv' := [(7, .int (0 : Int32)), (6, .int t0), (0, .ref (zz_d Z 47)), (3, .int v3), (4, .int v4)]) rfl rfl ?_
  refine zr_sub [2, 3, 4, 1, 0] rfl (zX_ValueForm_begin_2_L56_w C v3 v4 t0 hr (fun s9 h => ?_) 10000 (0 : Int32) s h)
  · skip
    refine zr_iconst C dX8_begin_116 (q := 117) (v := (0 : Int32)) (by decide) rfl ?_
    refine zr_istore C dX8_begin_117 (q := 119) (by decide) (lv' := [(7, .int (0 : Int32)), (0, .ref (zz_d Z 47)), (3, .int v3), (4, .int v4)]) rfl rfl ?_
    refine zr_sub [1, 2, 3, 0] rfl (zX_ValueForm_begin_2_L119_w C v3 v4 hr (fun s15 h => ?_) 10000 (0 : Int32) s9 h)
    · skip
      exact zr_retV dX8_begin_160 h hr
set_option maxRecDepth 100000 in
set_option maxHeartbeats 4000000 in
theorem zX_ValueForm_begin_2_w {Z : zx_Z} (C : zx_ok zX_sd Z cX8_begin 8 RX8 2 41) {r : zx_S} (p1 p2 : Int32) (s : zx_S) (hr : zx_rV zX_sd Z cX8_begin 8 r) (h : zX_ValueForm_begin_2 p1 p2 s = some r) : zW zX_sd Z 8 0 [(0, .ref (zz_d Z 47)), (1, .int p1), (2, .int p2)] [] s := by
  unfold zX_ValueForm_begin_2 at h
  refine zr_aload_n C dX8_begin_0 (q := 1) rfl 0 rfl rfl ?_
  refine zr_get C dX8_begin_1 (q := 4) zX_gX8_23_47 rfl ?_
  refine zr_get C dX8_begin_4 (q := 7) zX_gX8_45_18 rfl ?_
  refine zr_iload_n C dX8_begin_7 (q := 8) rfl 2 rfl rfl ?_
  obtain ⟨hin_8, h⟩ := zx_ck_so h
  refine zr_iald C dX8_begin_8 (q := 9) zX_a30 hin_8 rfl ?_
  refine zr_top h (fun v3_1 h => ?_)
  refine zr_istore_n C dX8_begin_9 (q := 10) rfl (by decide) (lv' := [(3, .int v3_1), (0, .ref (zz_d Z 47)), (1, .int p1), (2, .int p2)]) rfl rfl ?_
  refine zr_aload_n C dX8_begin_10 (q := 11) rfl 1 rfl rfl ?_
  refine zr_get C dX8_begin_11 (q := 14) zX_gX8_23_47 rfl ?_
  refine zr_get C dX8_begin_14 (q := 17) zX_gX8_48_18 rfl ?_
  refine zr_iload_n C dX8_begin_17 (q := 18) rfl 3 rfl rfl ?_
  obtain ⟨hin_18, h⟩ := zx_ck_so h
  refine zr_iald C dX8_begin_18 (q := 19) zX_a29 hin_18 rfl ?_
  refine zr_top h (fun v4_2 h => ?_)
  refine zr_istore C dX8_begin_19 (q := 21) (by decide) (lv' := [(4, .int v4_2), (3, .int v3_1), (0, .ref (zz_d Z 47)), (1, .int p1), (2, .int p2)]) rfl rfl ?_
  refine zr_aload_n C dX8_begin_21 (q := 22) rfl 2 rfl rfl ?_
  refine zr_get C dX8_begin_22 (q := 25) zX_gX8_19_47 rfl ?_
  refine zr_get C dX8_begin_25 (q := 28) zX_gX8_51_11 rfl ?_
  refine zr_iload_n C dX8_begin_28 (q := 29) rfl 4 rfl rfl ?_
  obtain ⟨hin_29, h⟩ := zx_ck_so h
  refine zr_iald C dX8_begin_29 (q := 30) zX_a13 hin_29 rfl ?_
  refine zr_top h (fun v5_3 h => ?_)
  refine zr_istore C dX8_begin_30 (q := 32) (by decide) (lv' := [(5, .int v5_3), (4, .int v4_2), (3, .int v3_1), (0, .ref (zz_d Z 47)), (1, .int p1), (2, .int p2)]) rfl rfl ?_
  refine zr_iload_n C dX8_begin_32 (q := 33) rfl 4 rfl rfl ?_
  refine zr_iconst C dX8_begin_33 (q := 34) (v := (-1 : Int32)) (by decide) rfl ?_
  refine zr_icmp_ne (tgt := 45) (q := 37) C dX8_begin_34 h (by decide) rfl (fun h => ?_) (fun h => ?_)
  · skip
    refine zr_iload C dX8_begin_45 (q := 47) 0 rfl rfl ?_
    refine zr_iload_n C dX8_begin_47 (q := 48) rfl 4 rfl rfl ?_
    obtain ⟨r17, hc_48, h⟩ := zx_b1_so h
    refine zr_csI (q := 51) C (As := [.int v5_3, .int p1]) (rest := []) dX8_begin_48 (zX_Graph_placeIn_met C.2.2.2.2.1 C.2.2.2.1 hc_48) zX_sX8_62 ⟨by decide, by decide⟩ rfl (Nat.le_of_ble_eq_true rfl) rfl rfl ?_
    exact zr_sub [3, 2, 1] rfl (zX_ValueForm_begin_2_J51_w C v3_1 v4_2 r17 s hr h)
  · skip
    refine zr_iload C dX8_begin_37 (q := 39) 0 rfl rfl ?_
    obtain ⟨r16, hc_39, h⟩ := zx_b1_so h
    refine zr_csI (q := 42) C (As := [.int v5_3]) (rest := []) dX8_begin_39 (zX_Integer_bitCount_met C.2.2.2.2.1 C.2.2.2.1 hc_39) zX_sX8_56 ⟨by decide, by decide⟩ rfl (Nat.le_of_ble_eq_true rfl) rfl rfl ?_
    refine zr_goto (q := 51) C dX8_begin_42 (by decide) ?_
    exact zr_sub [3, 2, 1] rfl (zX_ValueForm_begin_2_J51_w C v3_1 v4_2 r16 s hr h)
theorem zX_ValueForm_begin_2_met {l : Launch} {D : va_G} {cz : ClassId × ClassId} {ad : Nat → Nat} (hS : zx_So zX_sd) (hi : zx_I zX_sd ad) {p1 p2 : Int32} {s : zx_S} {s1 : zx_S} (h : zX_ValueForm_begin_2 p1 p2 s = some s1) : zx_MV zX_sd l D cz ad yX8_begin cX8_begin 8 2 41 [.ref (ad 47), .int p1, .int p2] s s1 := zx_metV hS hi (by decide +kernel) rfl (Nat.le_of_ble_eq_true rfl) (fun Z e1 e2 e3 e4 C hr => by subst e1 e2 e3 e4; exact zX_ValueForm_begin_2_w C p1 p2 s hr h)
set_option maxRecDepth 100000 in
set_option maxHeartbeats 4000000 in
theorem zX_ValueForm_keeps_2_w {Z : zx_Z} (C : zx_ok zX_sd Z cX8_keeps 3 RX8 1 21) {r : Int32} (p1 : Int32) (s : zx_S) (hr : zx_rI zX_sd Z cX8_keeps 3 .boolean r s) (h : zX_ValueForm_keeps_2 p1 s = some r) : zW zX_sd Z 3 0 [(0, .ref (zz_d Z 47)), (1, .int p1)] [] s := by
  unfold zX_ValueForm_keeps_2 at h
  refine zr_aload_n C dX8_keeps_0 (q := 1) rfl 0 rfl rfl ?_
  refine zr_get C dX8_keeps_1 (q := 4) zX_gX8_23_47 rfl ?_
  refine zr_get C dX8_keeps_4 (q := 7) zX_gX8_81_18 rfl ?_
  refine zr_iload_n C dX8_keeps_7 (q := 8) rfl 1 rfl rfl ?_
  obtain ⟨hin_8, h⟩ := zx_ck_so h
  refine zr_iald C dX8_keeps_8 (q := 9) zX_a28 hin_8 rfl ?_
  refine zr_top h (fun v2_1 h => ?_)
  refine zr_istore_n C dX8_keeps_9 (q := 10) rfl (by decide) (lv' := [(2, .int v2_1), (0, .ref (zz_d Z 47)), (1, .int p1)]) rfl rfl ?_
  refine zr_iload_n C dX8_keeps_10 (q := 11) rfl 0 rfl rfl ?_
  refine zr_iconst C dX8_keeps_11 (q := 12) (v := (-1 : Int32)) (by decide) rfl ?_
  refine zr_icmp_ne (tgt := 37) (q := 15) C dX8_keeps_12 h (by decide) rfl (fun h => ?_) (fun h => ?_)
  · skip
    refine zr_aload_n C dX8_keeps_37 (q := 38) rfl 1 rfl rfl ?_
    refine zr_iload_n C dX8_keeps_38 (q := 39) rfl 0 rfl rfl ?_
    obtain ⟨r2, hc_39, h⟩ := zx_b1_so h
    refine zr_cvI (q := 42) C (As := [.int v2_1]) (k := 47) (rest := []) dX8_keeps_39 (zX_ValueForm_goes_2_met C.2.2.2.2.1 C.2.2.2.1 hc_39) zX_vX8_66 zX_o47 ⟨by decide, by decide⟩ rfl (Nat.le_of_ble_eq_true rfl) rfl rfl ?_
    refine zr_if_ne (tgt := 49) (q := 45) C dX8_keeps_42 h (by decide) rfl (fun h => ?_) (fun h => ?_)
    · skip
      refine zr_iconst C dX8_keeps_49 (q := 50) (v := (0 : Int32)) (by decide) rfl ?_
      exact zr_retZR dX8_keeps_50 (Or.inl rfl) h hr
    · skip
      refine zr_iconst C dX8_keeps_45 (q := 46) (v := (1 : Int32)) (by decide) rfl ?_
      refine zr_goto (q := 50) C dX8_keeps_46 (by decide) ?_
      exact zr_retZR dX8_keeps_50 (Or.inr rfl) h hr
  · skip
    refine zr_aload_n C dX8_keeps_15 (q := 16) rfl 1 rfl rfl ?_
    refine zr_get C dX8_keeps_16 (q := 19) zX_gX8_15_47 rfl ?_
    refine zr_get C dX8_keeps_19 (q := 22) zX_gX8_84_1 rfl ?_
    refine zr_iload_n C dX8_keeps_22 (q := 23) rfl 2 rfl rfl ?_
    obtain ⟨hin_23, h⟩ := zx_ck_so h
    refine zr_iald C dX8_keeps_23 (q := 24) zX_a3 hin_23 rfl ?_
    refine zr_bipush C dX8_keeps_24 (q := 26) (v := (14 : Int32)) (by decide) rfl ?_
    refine zr_icmp_ne (tgt := 33) (q := 29) C dX8_keeps_26 h (by decide) rfl (fun h => ?_) (fun h => ?_)
    · skip
      refine zr_iconst C dX8_keeps_33 (q := 34) (v := (0 : Int32)) (by decide) rfl ?_
      refine zr_goto (q := 50) C dX8_keeps_34 (by decide) ?_
      exact zr_retZR dX8_keeps_50 (Or.inl rfl) h hr
    · skip
      refine zr_iconst C dX8_keeps_29 (q := 30) (v := (1 : Int32)) (by decide) rfl ?_
      refine zr_goto (q := 50) C dX8_keeps_30 (by decide) ?_
      exact zr_retZR dX8_keeps_50 (Or.inr rfl) h hr
theorem zX_ValueForm_keeps_2_met {l : Launch} {D : va_G} {cz : ClassId × ClassId} {ad : Nat → Nat} (hS : zx_So zX_sd) (hi : zx_I zX_sd ad) {p1 : Int32} {s : zx_S} {v : Int32} (h : zX_ValueForm_keeps_2 p1 s = some v) : zx_MI zX_sd l D cz ad yX8_keeps cX8_keeps 3 .boolean 1 21 [.ref (ad 47), .int p1] s v s := zx_metI hS hi (by decide +kernel) rfl (Nat.le_of_ble_eq_true rfl) (fun Z e1 e2 e3 e4 C hr => by subst e1 e2 e3 e4; exact zX_ValueForm_keeps_2_w C p1 s hr h)
set_option maxRecDepth 100000 in
set_option maxHeartbeats 4000000 in
theorem zX_ValueForm_target_2_w {Z : zx_Z} (C : zx_ok zX_sd Z cX8_target 2 RX8 0 0) {r : Int32} (p1 : Int32) (s : zx_S) (hr : zx_rI zX_sd Z cX8_target 2 .int r s) (h : zX_ValueForm_target_2 p1 s = some r) : zW zX_sd Z 2 0 [(0, .ref (zz_d Z 47)), (1, .int p1)] [] s := by
  unfold zX_ValueForm_target_2 at h
  refine zr_aload_n C dX8_target_0 (q := 1) rfl 0 rfl rfl ?_
  refine zr_get C dX8_target_1 (q := 4) zX_gX8_23_47 rfl ?_
  refine zr_get C dX8_target_4 (q := 7) zX_gX8_81_18 rfl ?_
  refine zr_iload_n C dX8_target_7 (q := 8) rfl 1 rfl rfl ?_
  obtain ⟨hin_8, h⟩ := zx_ck_so h
  refine zr_iald C dX8_target_8 (q := 9) zX_a28 hin_8 rfl ?_
  exact zr_retR dX8_target_9 h hr
theorem zX_ValueForm_target_2_met {l : Launch} {D : va_G} {cz : ClassId × ClassId} {ad : Nat → Nat} (hS : zx_So zX_sd) (hi : zx_I zX_sd ad) {p1 : Int32} {s : zx_S} {v : Int32} (h : zX_ValueForm_target_2 p1 s = some v) : zx_MI zX_sd l D cz ad yX8_target cX8_target 2 .int 0 0 [.ref (ad 47), .int p1] s v s := zx_metI hS hi (by decide +kernel) rfl (Nat.le_of_ble_eq_true rfl) (fun Z e1 e2 e3 e4 C hr => by subst e1 e2 e3 e4; exact zX_ValueForm_target_2_w C p1 s hr h)
set_option maxRecDepth 100000 in
set_option maxHeartbeats 4000000 in
theorem zX_ValueForm_left_2_w {Z : zx_Z} (C : zx_ok zX_sd Z cX8_left 2 RX8 0 0) {r : Int32} (p1 : Int32) (s : zx_S) (hr : zx_rI zX_sd Z cX8_left 2 .int r s) (h : zX_ValueForm_left_2 p1 s = some r) : zW zX_sd Z 2 0 [(0, .ref (zz_d Z 47)), (1, .int p1)] [] s := by
  unfold zX_ValueForm_left_2 at h
  refine zr_aload_n C dX8_left_0 (q := 1) rfl 0 rfl rfl ?_
  refine zr_get C dX8_left_1 (q := 4) zX_gX8_15_47 rfl ?_
  refine zr_get C dX8_left_4 (q := 7) zX_gX8_84_1 rfl ?_
  refine zr_iload_n C dX8_left_7 (q := 8) rfl 1 rfl rfl ?_
  obtain ⟨hin_8, h⟩ := zx_ck_so h
  refine zr_iald C dX8_left_8 (q := 9) zX_a3 hin_8 rfl ?_
  refine zr_bipush C dX8_left_9 (q := 11) (v := (14 : Int32)) (by decide) rfl ?_
  refine zr_icmp_ne (tgt := 24) (q := 14) C dX8_left_11 h (by decide) rfl (fun h => ?_) (fun h => ?_)
  · skip
    refine zr_aload_n C dX8_left_24 (q := 25) rfl 0 rfl rfl ?_
    refine zr_get C dX8_left_25 (q := 28) zX_gX8_40_47 rfl ?_
    refine zr_get C dX8_left_28 (q := 31) zX_gX8_73_38 rfl ?_
    refine zr_aload_n C dX8_left_31 (q := 32) rfl 0 rfl rfl ?_
    refine zr_get C dX8_left_32 (q := 35) zX_gX8_23_47 rfl ?_
    refine zr_get C dX8_left_35 (q := 38) zX_gX8_78_18 rfl ?_
    refine zr_aload_n C dX8_left_38 (q := 39) rfl 0 rfl rfl ?_
    refine zr_get C dX8_left_39 (q := 42) zX_gX8_23_47 rfl ?_
    refine zr_get C dX8_left_42 (q := 45) zX_gX8_81_18 rfl ?_
    refine zr_iload_n C dX8_left_45 (q := 46) rfl 1 rfl rfl ?_
    obtain ⟨hin_46, h⟩ := zx_ck_so h
    refine zr_iald C dX8_left_46 (q := 47) zX_a28 hin_46 rfl ?_
    obtain ⟨hin_47, h⟩ := zx_ck_so h
    refine zr_iald C dX8_left_47 (q := 48) zX_a23 hin_47 rfl ?_
    obtain ⟨hin_48, h⟩ := zx_ck_so h
    refine zr_iald C dX8_left_48 (q := 49) zX_a39 hin_48 rfl ?_
    exact zr_retR dX8_left_49 h hr
  · skip
    refine zr_aload_n C dX8_left_14 (q := 15) rfl 0 rfl rfl ?_
    refine zr_get C dX8_left_15 (q := 18) zX_gX8_40_47 rfl ?_
    refine zr_get C dX8_left_18 (q := 21) zX_gX8_89_38 rfl ?_
    refine zr_iload_n C dX8_left_21 (q := 22) rfl 1 rfl rfl ?_
    obtain ⟨hin_22, h⟩ := zx_ck_so h
    refine zr_iald C dX8_left_22 (q := 23) zX_a40 hin_22 rfl ?_
    exact zr_retR dX8_left_23 h hr
theorem zX_ValueForm_left_2_met {l : Launch} {D : va_G} {cz : ClassId × ClassId} {ad : Nat → Nat} (hS : zx_So zX_sd) (hi : zx_I zX_sd ad) {p1 : Int32} {s : zx_S} {v : Int32} (h : zX_ValueForm_left_2 p1 s = some v) : zx_MI zX_sd l D cz ad yX8_left cX8_left 2 .int 0 0 [.ref (ad 47), .int p1] s v s := zx_metI hS hi (by decide +kernel) rfl (Nat.le_of_ble_eq_true rfl) (fun Z e1 e2 e3 e4 C hr => by subst e1 e2 e3 e4; exact zX_ValueForm_left_2_w C p1 s hr h)
set_option maxRecDepth 100000 in
set_option maxHeartbeats 4000000 in
theorem zX_ValueForm_right_2_w {Z : zx_Z} (C : zx_ok zX_sd Z cX8_right 2 RX8 0 0) {r : Int32} (p1 : Int32) (s : zx_S) (hr : zx_rI zX_sd Z cX8_right 2 .int r s) (h : zX_ValueForm_right_2 p1 s = some r) : zW zX_sd Z 2 0 [(0, .ref (zz_d Z 47)), (1, .int p1)] [] s := by
  unfold zX_ValueForm_right_2 at h
  refine zr_aload_n C dX8_right_0 (q := 1) rfl 0 rfl rfl ?_
  refine zr_get C dX8_right_1 (q := 4) zX_gX8_40_47 rfl ?_
  refine zr_get C dX8_right_4 (q := 7) zX_gX8_73_38 rfl ?_
  refine zr_aload_n C dX8_right_7 (q := 8) rfl 0 rfl rfl ?_
  refine zr_get C dX8_right_8 (q := 11) zX_gX8_23_47 rfl ?_
  refine zr_get C dX8_right_11 (q := 14) zX_gX8_78_18 rfl ?_
  refine zr_aload_n C dX8_right_14 (q := 15) rfl 0 rfl rfl ?_
  refine zr_get C dX8_right_15 (q := 18) zX_gX8_23_47 rfl ?_
  refine zr_get C dX8_right_18 (q := 21) zX_gX8_81_18 rfl ?_
  refine zr_iload_n C dX8_right_21 (q := 22) rfl 1 rfl rfl ?_
  obtain ⟨hin_22, h⟩ := zx_ck_so h
  refine zr_iald C dX8_right_22 (q := 23) zX_a28 hin_22 rfl ?_
  obtain ⟨hin_23, h⟩ := zx_ck_so h
  refine zr_iald C dX8_right_23 (q := 24) zX_a23 hin_23 rfl ?_
  refine zr_iconst C dX8_right_24 (q := 25) (v := (1 : Int32)) (by decide) rfl ?_
  refine zr_iadd C dX8_right_25 (q := 26) rfl ?_
  obtain ⟨hin_26, h⟩ := zx_ck_so h
  refine zr_iald C dX8_right_26 (q := 27) zX_a39 hin_26 rfl ?_
  exact zr_retR dX8_right_27 h hr
theorem zX_ValueForm_right_2_met {l : Launch} {D : va_G} {cz : ClassId × ClassId} {ad : Nat → Nat} (hS : zx_So zX_sd) (hi : zx_I zX_sd ad) {p1 : Int32} {s : zx_S} {v : Int32} (h : zX_ValueForm_right_2 p1 s = some v) : zx_MI zX_sd l D cz ad yX8_right cX8_right 2 .int 0 0 [.ref (ad 47), .int p1] s v s := zx_metI hS hi (by decide +kernel) rfl (Nat.le_of_ble_eq_true rfl) (fun Z e1 e2 e3 e4 C hr => by subst e1 e2 e3 e4; exact zX_ValueForm_right_2_w C p1 s hr h)
set_option maxRecDepth 100000 in
set_option maxHeartbeats 4000000 in
theorem zX_Machine_follow_3_w {Z : zx_Z} (C : zx_ok zX_sd Z cX4_follow 5 RX4 2 43) {r : zx_S} (p2 : Int32) (s : zx_S) (hr : zx_rV zX_sd Z cX4_follow 5 r) (h : zX_Machine_follow_3 p2 s = some r) : zW zX_sd Z 5 0 [(0, .ref (zz_d Z 50)), (1, .ref (zz_d Z 47)), (2, .int p2)] [] s := by
  unfold zX_Machine_follow_3 at h
  refine zr_aload_n C dX4_follow_0 (q := 1) rfl 1 rfl rfl ?_
  refine zr_get C dX4_follow_1 (q := 4) zX_gX4_58_47 rfl ?_
  refine zr_astore_n C dX4_follow_4 (q := 5) rfl (by decide) (lv' := [(3, .ref (zz_d Z 48)), (0, .ref (zz_d Z 50)), (1, .ref (zz_d Z 47)), (2, .int p2)]) rfl rfl ?_
  refine zr_aload_n C dX4_follow_5 (q := 6) rfl 1 rfl rfl ?_
  refine zr_get C dX4_follow_6 (q := 9) zX_gX4_22_50 rfl ?_
  refine zr_get C dX4_follow_9 (q := 12) zX_gX4_79_1 rfl ?_
  refine zr_iload_n C dX4_follow_12 (q := 13) rfl 3 rfl rfl ?_
  obtain ⟨hin_13, h⟩ := zx_ck_so h
  refine zr_iald C dX4_follow_13 (q := 14) zX_a3 hin_13 rfl ?_
  refine zr_top h (fun v4_1 h => ?_)
  refine zr_istore C dX4_follow_14 (q := 16) (by decide) (lv' := [(4, .int v4_1), (3, .ref (zz_d Z 48)), (0, .ref (zz_d Z 50)), (1, .ref (zz_d Z 47)), (2, .int p2)]) rfl rfl ?_
  refine zr_iload C dX4_follow_16 (q := 18) 0 rfl rfl ?_
  by_cases e0 : v4_1 = (0 : Int32)
  · rw [if_pos e0] at h
    refine zr_lookup (tgt := 60) (off := 42) C dX4_follow_18 (by decide) (by rw [e0] <;> exact rfl) (by decide) ?_
    refine zr_aload_n C dX4_follow_60 (q := 61) rfl 1 rfl rfl ?_
    refine zr_aload_n C dX4_follow_61 (q := 62) rfl 3 rfl rfl ?_
    refine zr_iload_n C dX4_follow_62 (q := 63) rfl 4 rfl rfl ?_
    obtain ⟨r16, hc_63, h⟩ := zx_b1_so h
    refine zr_caI (q := 66) C (As := [.int p2]) (k := 47) (rest := [.ref (zz_d Z 48)]) dX4_follow_63 (zX_ValueForm_target_2_met C.2.2.2.2.1 C.2.2.2.1 hc_63) zX_bX4_82_X8 zX_o47 ⟨by decide, by decide⟩ rfl (Nat.le_of_ble_eq_true rfl) rfl rfl ?_
    refine zr_aload_n C dX4_follow_66 (q := 67) rfl 2 rfl rfl ?_
    refine zr_get C dX4_follow_67 (q := 70) zX_gX4_22_50 rfl ?_
    refine zr_get C dX4_follow_70 (q := 73) zX_gX4_85_1 rfl ?_
    refine zr_iload_n C dX4_follow_73 (q := 74) rfl 4 rfl rfl ?_
    obtain ⟨hin_74, h⟩ := zx_ck_so h
    refine zr_iald C dX4_follow_74 (q := 75) zX_a5 hin_74 rfl ?_
    refine zr_top h (fun x17 h => ?_)
    obtain ⟨hin_75, h⟩ := zx_ck_so h
    refine zr_iast C dX4_follow_75 (q := 76) zX_a48 hin_75 rfl ?_
    refine zr_ls h (fun s18 h => ?_)
    refine zr_goto (q := 160) C dX4_follow_76 (by decide) ?_
    exact zr_retV dX4_follow_160 h hr
  · rw [if_neg e0] at h
    by_cases e1 : v4_1 = (1 : Int32)
    · rw [if_pos e1] at h
      refine zr_lookup (tgt := 79) (off := 61) C dX4_follow_18 (by decide) (by rw [e1] <;> exact rfl) (by decide) ?_
      refine zr_aload_n C dX4_follow_79 (q := 80) rfl 1 rfl rfl ?_
      refine zr_aload_n C dX4_follow_80 (q := 81) rfl 3 rfl rfl ?_
      refine zr_iload_n C dX4_follow_81 (q := 82) rfl 4 rfl rfl ?_
      obtain ⟨r13, hc_82, h⟩ := zx_b1_so h
      refine zr_caI (q := 85) C (As := [.int p2]) (k := 47) (rest := [.ref (zz_d Z 48)]) dX4_follow_82 (zX_ValueForm_target_2_met C.2.2.2.2.1 C.2.2.2.1 hc_82) zX_bX4_82_X8 zX_o47 ⟨by decide, by decide⟩ rfl (Nat.le_of_ble_eq_true rfl) rfl rfl ?_
      refine zr_aload_n C dX4_follow_85 (q := 86) rfl 2 rfl rfl ?_
      refine zr_get C dX4_follow_86 (q := 89) zX_gX4_9_50 rfl ?_
      refine zr_aload_n C dX4_follow_89 (q := 90) rfl 2 rfl rfl ?_
      refine zr_get C dX4_follow_90 (q := 93) zX_gX4_22_50 rfl ?_
      refine zr_get C dX4_follow_93 (q := 96) zX_gX4_85_1 rfl ?_
      refine zr_iload_n C dX4_follow_96 (q := 97) rfl 4 rfl rfl ?_
      obtain ⟨hin_97, h⟩ := zx_ck_so h
      refine zr_iald C dX4_follow_97 (q := 98) zX_a5 hin_97 rfl ?_
      obtain ⟨hin_98, h⟩ := zx_ck_so h
      refine zr_iald C dX4_follow_98 (q := 99) zX_a51 hin_98 rfl ?_
      refine zr_top h (fun x14 h => ?_)
      obtain ⟨hin_99, h⟩ := zx_ck_so h
      refine zr_iast C dX4_follow_99 (q := 100) zX_a48 hin_99 rfl ?_
      refine zr_ls h (fun s15 h => ?_)
      refine zr_goto (q := 160) C dX4_follow_100 (by decide) ?_
      exact zr_retV dX4_follow_160 h hr
    · rw [if_neg e1] at h
      by_cases e2 : v4_1 = (2 : Int32)
      · rw [if_pos e2] at h
        refine zr_lookup (tgt := 103) (off := 85) C dX4_follow_18 (by decide) (by rw [e2] <;> exact rfl) (by decide) ?_
        refine zr_aload_n C dX4_follow_103 (q := 104) rfl 1 rfl rfl ?_
        refine zr_aload_n C dX4_follow_104 (q := 105) rfl 3 rfl rfl ?_
        refine zr_iload_n C dX4_follow_105 (q := 106) rfl 4 rfl rfl ?_
        obtain ⟨r9, hc_106, h⟩ := zx_b1_so h
        refine zr_caI (q := 109) C (As := [.int p2]) (k := 47) (rest := [.ref (zz_d Z 48)]) dX4_follow_106 (zX_ValueForm_target_2_met C.2.2.2.2.1 C.2.2.2.1 hc_106) zX_bX4_82_X8 zX_o47 ⟨by decide, by decide⟩ rfl (Nat.le_of_ble_eq_true rfl) rfl rfl ?_
        refine zr_aload_n C dX4_follow_109 (q := 110) rfl 1 rfl rfl ?_
        refine zr_aload_n C dX4_follow_110 (q := 111) rfl 3 rfl rfl ?_
        refine zr_iload_n C dX4_follow_111 (q := 112) rfl 4 rfl rfl ?_
        obtain ⟨r10, hc_112, h⟩ := zx_b1_so h
        refine zr_caI (q := 115) C (As := [.int p2]) (k := 47) (rest := [.ref (zz_d Z 48), .int r9, .ref (zz_d Z 48)]) dX4_follow_112 (zX_ValueForm_left_2_met C.2.2.2.2.1 C.2.2.2.1 hc_112) zX_bX4_88_X8 zX_o47 ⟨by decide, by decide⟩ rfl (Nat.le_of_ble_eq_true rfl) rfl rfl ?_
        obtain ⟨hin_115, h⟩ := zx_ck_so h
        refine zr_iald C dX4_follow_115 (q := 116) zX_a48 hin_115 rfl ?_
        refine zr_top h (fun x11 h => ?_)
        obtain ⟨hin_116, h⟩ := zx_ck_so h
        refine zr_iast C dX4_follow_116 (q := 117) zX_a48 hin_116 rfl ?_
        refine zr_ls h (fun s12 h => ?_)
        refine zr_goto (q := 160) C dX4_follow_117 (by decide) ?_
        exact zr_retV dX4_follow_160 h hr
      · rw [if_neg e2] at h
        by_cases e3 : v4_1 = (14 : Int32)
        · rw [if_pos e3] at h
          refine zr_lookup (tgt := 120) (off := 102) C dX4_follow_18 (by decide) (by rw [e3] <;> exact rfl) (by decide) ?_
          refine zr_aload_n C dX4_follow_120 (q := 121) rfl 2 rfl rfl ?_
          refine zr_aload_n C dX4_follow_121 (q := 122) rfl 1 rfl rfl ?_
          refine zr_aload_n C dX4_follow_122 (q := 123) rfl 3 rfl rfl ?_
          refine zr_iload_n C dX4_follow_123 (q := 124) rfl 4 rfl rfl ?_
          obtain ⟨r7, hc_124, h⟩ := zx_b1_so h
          refine zr_caI (q := 127) C (As := [.int p2]) (k := 47) (rest := [.ref (zz_d Z 48), .ref (zz_d Z 50)]) dX4_follow_124 (zX_ValueForm_left_2_met C.2.2.2.2.1 C.2.2.2.1 hc_124) zX_bX4_88_X8 zX_o47 ⟨by decide, by decide⟩ rfl (Nat.le_of_ble_eq_true rfl) rfl rfl ?_
          obtain ⟨hin_127, h⟩ := zx_ck_so h
          refine zr_iald C dX4_follow_127 (q := 128) zX_a48 hin_127 rfl ?_
          obtain ⟨s8, hc_128, h⟩ := zx_b1_so h
          refine zr_cvV (q := 131) C (As := [.int (s 48 (r7).toNatClampNeg)]) (k := 50) (rest := []) dX4_follow_128 (zX_Machine_tell_met C.2.2.2.2.1 C.2.2.2.1 hc_128) zX_vX4_91 zX_o50 ⟨by decide, by decide⟩ rfl (Nat.le_of_ble_eq_true rfl) rfl rfl ?_
          refine zr_goto (q := 160) C dX4_follow_131 (by decide) ?_
          exact zr_retV dX4_follow_160 h hr
        · rw [if_neg e3] at h
          refine zr_lookup (tgt := 134) (off := 116) C dX4_follow_18 (by decide) (by show Op.lookupswitch.offset [(0, 42), (1, 61), (2, 85), (14, 102)] _ _ = _; rw [lv_osw e0 (by decide), lv_osw e1 (by decide), lv_osw e2 (by decide), lv_osw e3 (by decide)] <;> exact rfl) (by decide) ?_
          refine zr_aload_n C dX4_follow_134 (q := 135) rfl 1 rfl rfl ?_
          refine zr_aload_n C dX4_follow_135 (q := 136) rfl 3 rfl rfl ?_
          refine zr_iload_n C dX4_follow_136 (q := 137) rfl 4 rfl rfl ?_
          obtain ⟨r2, hc_137, h⟩ := zx_b1_so h
          refine zr_caI (q := 140) C (As := [.int p2]) (k := 47) (rest := [.ref (zz_d Z 48)]) dX4_follow_137 (zX_ValueForm_target_2_met C.2.2.2.2.1 C.2.2.2.1 hc_137) zX_bX4_82_X8 zX_o47 ⟨by decide, by decide⟩ rfl (Nat.le_of_ble_eq_true rfl) rfl rfl ?_
          refine zr_iload C dX4_follow_140 (q := 142) 0 rfl rfl ?_
          refine zr_aload_n C dX4_follow_142 (q := 143) rfl 1 rfl rfl ?_
          refine zr_aload_n C dX4_follow_143 (q := 144) rfl 3 rfl rfl ?_
          refine zr_iload_n C dX4_follow_144 (q := 145) rfl 4 rfl rfl ?_
          obtain ⟨r3, hc_145, h⟩ := zx_b1_so h
          refine zr_caI (q := 148) C (As := [.int p2]) (k := 47) (rest := [.ref (zz_d Z 48), .int v4_1, .int r2, .ref (zz_d Z 48)]) dX4_follow_145 (zX_ValueForm_left_2_met C.2.2.2.2.1 C.2.2.2.1 hc_145) zX_bX4_88_X8 zX_o47 ⟨by decide, by decide⟩ rfl (Nat.le_of_ble_eq_true rfl) rfl rfl ?_
          obtain ⟨hin_148, h⟩ := zx_ck_so h
          refine zr_iald C dX4_follow_148 (q := 149) zX_a48 hin_148 rfl ?_
          refine zr_aload_n C dX4_follow_149 (q := 150) rfl 1 rfl rfl ?_
          refine zr_aload_n C dX4_follow_150 (q := 151) rfl 3 rfl rfl ?_
          refine zr_iload_n C dX4_follow_151 (q := 152) rfl 4 rfl rfl ?_
          obtain ⟨r4, hc_152, h⟩ := zx_b1_so h
          refine zr_caI (q := 155) C (As := [.int p2]) (k := 47) (rest := [.ref (zz_d Z 48), .int (s 48 (r3).toNatClampNeg), .int v4_1, .int r2, .ref (zz_d Z 48)]) dX4_follow_152 (zX_ValueForm_right_2_met C.2.2.2.2.1 C.2.2.2.1 hc_152) zX_bX4_95_X8 zX_o47 ⟨by decide, by decide⟩ rfl (Nat.le_of_ble_eq_true rfl) rfl rfl ?_
          obtain ⟨hin_155, h⟩ := zx_ck_so h
          refine zr_iald C dX4_follow_155 (q := 156) zX_a48 hin_155 rfl ?_
          obtain ⟨r5, hc_156, h⟩ := zx_b1_so h
          refine zr_csI (q := 159) C (As := [.int v4_1, .int (s 48 (r3).toNatClampNeg), .int (s 48 (r4).toNatClampNeg)]) (rest := [.int r2, .ref (zz_d Z 48)]) dX4_follow_156 (zX_Machine_compute_met C.2.2.2.2.1 C.2.2.2.1 hc_156) zX_sX4_98 ⟨by decide, by decide⟩ rfl (Nat.le_of_ble_eq_true rfl) rfl rfl ?_
          obtain ⟨hin_159, h⟩ := zx_ck_so h
          refine zr_iast C dX4_follow_159 (q := 160) zX_a48 hin_159 rfl ?_
          refine zr_ls h (fun s6 h => ?_)
          exact zr_retV dX4_follow_160 h hr
theorem zX_Machine_follow_3_met {l : Launch} {D : va_G} {cz : ClassId × ClassId} {ad : Nat → Nat} (hS : zx_So zX_sd) (hi : zx_I zX_sd ad) {p2 : Int32} {s : zx_S} {s1 : zx_S} (h : zX_Machine_follow_3 p2 s = some s1) : zx_MV zX_sd l D cz ad yX4_follow cX4_follow 5 2 43 [.ref (ad 50), .ref (ad 47), .int p2] s s1 := zx_metV hS hi (by decide +kernel) rfl (Nat.le_of_ble_eq_true rfl) (fun Z e1 e2 e3 e4 C hr => by subst e1 e2 e3 e4; exact zX_Machine_follow_3_w C p2 s hr h)
set_option maxRecDepth 100000 in
set_option maxHeartbeats 4000000 in
theorem zX_Machine_followBlock_3_L13_w {Z : zx_Z} (C : zx_ok zX_sd Z cX4_followBlock 3 RX4 3 67) {r : Int32 × zx_S} {k46 : zx_S → Option (Int32 × zx_S)} (hr : zx_rI zX_sd Z cX4_followBlock 3 .boolean r.1 r.2) (h46 : ∀ (s1 : zx_S), k46 s1 = some r → zW zX_sd Z 3 46 [] [] s1) : ∀ (n : Nat) (v2 : Int32) (s : zx_S), zX_Machine_followBlock_3_L13 k46 n v2 s = some r → zW zX_sd Z 3 13 [(0, .ref (zz_d Z 50)), (1, .ref (zz_d Z 47)), (2, .int v2)] [] s := by
  intro n
  induction n with
  | zero => intro v2 s h; unfold zX_Machine_followBlock_3_L13 at h; cases h
  | succ n ih =>
    intro v2 s h
    unfold zX_Machine_followBlock_3_L13 at h
    refine zr_iload_n C dX4_followBlock_13 (q := 14) rfl 2 rfl rfl ?_
    refine zr_aload_n C dX4_followBlock_14 (q := 15) rfl 0 rfl rfl ?_
    refine zr_get C dX4_followBlock_15 (q := 18) zX_gX4_22_50 rfl ?_
    refine zr_get C dX4_followBlock_18 (q := 21) zX_gX4_68_1 rfl ?_
    refine zr_aload_n C dX4_followBlock_21 (q := 22) rfl 0 rfl rfl ?_
    refine zr_get C dX4_followBlock_22 (q := 25) zX_gX4_35_50 rfl ?_
    refine zr_iconst C dX4_followBlock_25 (q := 26) (v := (1 : Int32)) (by decide) rfl ?_
    refine zr_iadd C dX4_followBlock_26 (q := 27) rfl ?_
    obtain ⟨hin_27, h⟩ := zx_ck_so h
    refine zr_iald C dX4_followBlock_27 (q := 28) zX_a2 hin_27 rfl ?_
    refine zr_icmp_ge (tgt := 60) (q := 31) C dX4_followBlock_28 h (by decide) rfl (fun h => ?_) (fun h => ?_)
    · skip
      refine zr_iconst C dX4_followBlock_60 (q := 61) (v := (1 : Int32)) (by decide) rfl ?_
      exact zr_retZI dX4_followBlock_61 (Or.inr rfl) h hr
    · skip
      refine zr_aload_n C dX4_followBlock_31 (q := 32) rfl 1 rfl rfl ?_
      refine zr_iload_n C dX4_followBlock_32 (q := 33) rfl 2 rfl rfl ?_
      obtain ⟨r2, hc_33, h⟩ := zx_b1_so h
      refine zr_caI (q := 36) C (As := [.int v2]) (k := 47) (rest := []) dX4_followBlock_33 (zX_ValueForm_keeps_2_met C.2.2.2.2.1 C.2.2.2.1 hc_33) zX_bX4_71_X8 zX_o47 ⟨by decide, by decide⟩ rfl (Nat.le_of_ble_eq_true rfl) rfl rfl ?_
      refine zr_if_eq (tgt := 54) (q := 39) C dX4_followBlock_36 h (by decide) rfl (fun h => ?_) (fun h => ?_)
      · skip
        refine zr_iinc C dX4_followBlock_54 (q := 57) h (by decide) 2 rfl (by decide) (lw := fun v2_7 => [(2, .int v2_7), (0, .ref (zz_d Z 50)), (1, .ref (zz_d Z 47))]) (fun _ => rfl) rfl (fun v2_7 h => ?_)
        refine zr_goto (q := 13) C dX4_followBlock_57 (by decide) ?_
        exact zr_sub [1, 2, 0] rfl (ih v2_7 s h)
      · skip
        refine zr_aload_n C dX4_followBlock_39 (q := 40) rfl 0 rfl rfl ?_
        obtain ⟨r3, s4, hc_40, h⟩ := zx_b2_so h
        refine zr_cvI (q := 43) C (As := []) (k := 50) (rest := []) dX4_followBlock_40 (zX_Machine_pay_met C.2.2.2.2.1 C.2.2.2.1 hc_40) zX_vX4_48 zX_o50 ⟨by decide, by decide⟩ rfl (Nat.le_of_ble_eq_true rfl) rfl rfl ?_
        refine zr_if_ne (tgt := 48) (q := 46) C dX4_followBlock_43 h (by decide) rfl (fun h => ?_) (fun h => ?_)
        · skip
          refine zr_aload_n C dX4_followBlock_48 (q := 49) rfl 0 rfl rfl ?_
          refine zr_aload_n C dX4_followBlock_49 (q := 50) rfl 1 rfl rfl ?_
          refine zr_iload_n C dX4_followBlock_50 (q := 51) rfl 2 rfl rfl ?_
          obtain ⟨s5, hc_51, h⟩ := zx_b1_so h
          refine zr_cvV (q := 54) C (As := [.ref (zz_d Z 47), .int v2]) (k := 50) (rest := []) dX4_followBlock_51 (zX_Machine_follow_3_met C.2.2.2.2.1 C.2.2.2.1 hc_51) zX_vX4_75 zX_o50 ⟨by decide, by decide⟩ rfl (Nat.le_of_ble_eq_true rfl) rfl rfl ?_
          refine zr_iinc C dX4_followBlock_54 (q := 57) h (by decide) 2 rfl (by decide) (lw := fun v2_6 => [(2, .int v2_6), (0, .ref (zz_d Z 50)), (1, .ref (zz_d Z 47))]) (fun _ => rfl) rfl (fun v2_6 h => ?_)
          refine zr_goto (q := 13) C dX4_followBlock_57 (by decide) ?_
          exact zr_sub [1, 2, 0] rfl (ih v2_6 s5 h)
        · skip
          exact zr_sub [] rfl (h46 s4 h)
set_option maxRecDepth 100000 in
set_option maxHeartbeats 4000000 in
theorem zX_Machine_followBlock_3_w {Z : zx_Z} (C : zx_ok zX_sd Z cX4_followBlock 3 RX4 3 67) {r : Int32 × zx_S} (s : zx_S) (hr : zx_rI zX_sd Z cX4_followBlock 3 .boolean r.1 r.2) (h : zX_Machine_followBlock_3 s = some r) : zW zX_sd Z 3 0 [(0, .ref (zz_d Z 50)), (1, .ref (zz_d Z 47))] [] s := by
  unfold zX_Machine_followBlock_3 at h
  refine zr_aload_n C dX4_followBlock_0 (q := 1) rfl 0 rfl rfl ?_
  refine zr_get C dX4_followBlock_1 (q := 4) zX_gX4_22_50 rfl ?_
  refine zr_get C dX4_followBlock_4 (q := 7) zX_gX4_68_1 rfl ?_
  refine zr_aload_n C dX4_followBlock_7 (q := 8) rfl 0 rfl rfl ?_
  refine zr_get C dX4_followBlock_8 (q := 11) zX_gX4_35_50 rfl ?_
  obtain ⟨hin_11, h⟩ := zx_ck_so h
  refine zr_iald C dX4_followBlock_11 (q := 12) zX_a2 hin_11 rfl ?_
  refine zr_top h (fun v2_1 h => ?_)
  refine zr_istore_n C dX4_followBlock_12 (q := 13) rfl (by decide) (lv' := [(2, .int v2_1), (0, .ref (zz_d Z 50)), (1, .ref (zz_d Z 47))]) rfl rfl ?_
  refine zr_sub [1, 2, 0] rfl (zX_Machine_followBlock_3_L13_w C hr (fun s8 h => ?_) 10000 v2_1 s h)
  · skip
    refine zr_iconst C dX4_followBlock_46 (q := 47) (v := (0 : Int32)) (by decide) rfl ?_
    exact zr_retZI dX4_followBlock_47 (Or.inl rfl) h hr
theorem zX_Machine_followBlock_3_met {l : Launch} {D : va_G} {cz : ClassId × ClassId} {ad : Nat → Nat} (hS : zx_So zX_sd) (hi : zx_I zX_sd ad) {s : zx_S} {v : Int32} {s1 : zx_S} (h : zX_Machine_followBlock_3 s = some (v, s1)) : zx_MI zX_sd l D cz ad yX4_followBlock cX4_followBlock 3 .boolean 3 67 [.ref (ad 50), .ref (ad 47)] s v s1 := zx_metI hS hi (by decide +kernel) rfl (Nat.le_of_ble_eq_true rfl) (fun Z e1 e2 e3 e4 C hr => by subst e1 e2 e3 e4; exact zX_Machine_followBlock_3_w (r := (v, s1)) C s hr h)
set_option maxRecDepth 100000 in
set_option maxHeartbeats 4000000 in
theorem zX_ValueForm_endCell_2_w {Z : zx_Z} (C : zx_ok zX_sd Z cX8_endCell 2 RX8 0 0) {r : Int32} (p1 : Int32) (s : zx_S) (hr : zx_rI zX_sd Z cX8_endCell 2 .int r s) (h : zX_ValueForm_endCell_2 p1 s = some r) : zW zX_sd Z 2 0 [(0, .ref (zz_d Z 47)), (1, .int p1)] [] s := by
  unfold zX_ValueForm_endCell_2 at h
  refine zr_aload_n C dX8_endCell_0 (q := 1) rfl 0 rfl rfl ?_
  refine zr_get C dX8_endCell_1 (q := 4) zX_gX8_40_47 rfl ?_
  refine zr_get C dX8_endCell_4 (q := 7) zX_gX8_92_38 rfl ?_
  refine zr_iload_n C dX8_endCell_7 (q := 8) rfl 1 rfl rfl ?_
  obtain ⟨hin_8, h⟩ := zx_ck_so h
  refine zr_iald C dX8_endCell_8 (q := 9) zX_a41 hin_8 rfl ?_
  exact zr_retR dX8_endCell_9 h hr
theorem zX_ValueForm_endCell_2_met {l : Launch} {D : va_G} {cz : ClassId × ClassId} {ad : Nat → Nat} (hS : zx_So zX_sd) (hi : zx_I zX_sd ad) {p1 : Int32} {s : zx_S} {v : Int32} (h : zX_ValueForm_endCell_2 p1 s = some v) : zx_MI zX_sd l D cz ad yX8_endCell cX8_endCell 2 .int 0 0 [.ref (ad 47), .int p1] s v s := zx_metI hS hi (by decide +kernel) rfl (Nat.le_of_ble_eq_true rfl) (fun Z e1 e2 e3 e4 C hr => by subst e1 e2 e3 e4; exact zX_ValueForm_endCell_2_w C p1 s hr h)
set_option maxRecDepth 100000 in
set_option maxHeartbeats 4000000 in
theorem zX_Machine_perform_3_J94_w {Z : zx_Z} (C : zx_ok zX_sd Z cX4_perform 6 RX4 4 89) {r : Int32 × zx_S} (v3 v4 t0 : Int32) (s : zx_S) {k24 : Int32 → Int32 → zx_S → Option (Int32 × zx_S)} {k101 : Int32 → zx_S → Option (Int32 × zx_S)} (hr : zx_rI zX_sd Z cX4_perform 6 .int r.1 r.2) (h24 : ∀ (a0 : Int32) (a1 : Int32) (s1 : zx_S), k24 a0 a1 s1 = some r → zW zX_sd Z 6 24 [(0, .ref (zz_d Z 50)), (1, .ref (zz_d Z 47)), (2, .int a0), (3, .int a1)] [] s1) (h101 : ∀ (a0 : Int32) (s1 : zx_S), k101 a0 s1 = some r → zW zX_sd Z 6 101 [(0, .ref (zz_d Z 50)), (5, .int a0)] [] s1) (h : zX_Machine_perform_3_J94 k24 k101 v3 v4 t0 s = some r) : zW zX_sd Z 6 94 [(0, .ref (zz_d Z 50)), (1, .ref (zz_d Z 47)), (3, .int v3), (4, .int v4)] [.int t0] s := by
  unfold zX_Machine_perform_3_J94 at h
  refine zr_istore C dX4_perform_94 (q := 96) (by decide) (lv' := [(5, .int t0), (0, .ref (zz_d Z 50)), (1, .ref (zz_d Z 47)), (3, .int v3), (4, .int v4)]) rfl rfl ?_
  refine zr_iload C dX4_perform_96 (q := 98) 4 rfl rfl ?_
  refine zr_if_ne (tgt := 109) (q := 101) C dX4_perform_98 h (by decide) rfl (fun h => ?_) (fun h => ?_)
  · skip
    refine zr_aload_n C dX4_perform_109 (q := 110) rfl 1 rfl rfl ?_
    refine zr_get C dX4_perform_110 (q := 113) zX_gX4_35_50 rfl ?_
    refine zr_top h (fun v2_11 h => ?_)
    refine zr_istore_n C dX4_perform_113 (q := 114) rfl (by decide) (lv' := [(2, .int v2_11), (5, .int t0), (0, .ref (zz_d Z 50)), (1, .ref (zz_d Z 47)), (3, .int v3), (4, .int v4)]) rfl rfl ?_
    refine zr_aload_n C dX4_perform_114 (q := 115) rfl 2 rfl rfl ?_
    refine zr_aload_n C dX4_perform_115 (q := 116) rfl 2 rfl rfl ?_
    refine zr_get C dX4_perform_116 (q := 119) zX_gX4_22_50 rfl ?_
    refine zr_aload_n C dX4_perform_119 (q := 120) rfl 2 rfl rfl ?_
    refine zr_get C dX4_perform_120 (q := 123) zX_gX4_35_50 rfl ?_
    refine zr_iload C dX4_perform_123 (q := 125) 1 rfl rfl ?_
    refine zr_if_eq (tgt := 132) (q := 128) C dX4_perform_125 h (by decide) rfl (fun h => ?_) (fun h => ?_)
    · skip
      refine zr_iconst C dX4_perform_132 (q := 133) (v := (0 : Int32)) (by decide) rfl ?_
      obtain ⟨r15, hc_133, h⟩ := zx_b1_so h
      refine zr_cvI (q := 136) C (As := [.int (s 50 7), .int (0 : Int32)]) (k := 1) (rest := [.ref (zz_d Z 50)]) dX4_perform_133 (zX_Program_next_met C.2.2.2.2.1 C.2.2.2.1 hc_133) zX_vX4_64 zX_o1 ⟨by decide, by decide⟩ rfl (Nat.le_of_ble_eq_true rfl) rfl rfl ?_
      refine zr_put C dX4_perform_136 (q := 139) zX_pX4_35_50 rfl rfl rfl ?_
      refine zr_ls h (fun s16 h => ?_)
      refine zr_iinc C dX4_perform_139 (q := 142) h (by decide) 4 rfl (by decide) (lw := fun v3_17 => [(3, .int v3_17), (2, .int v2_11), (5, .int t0), (0, .ref (zz_d Z 50)), (1, .ref (zz_d Z 47)), (4, .int v4)]) (fun _ => rfl) rfl (fun v3_17 h => ?_)
      refine zr_goto (q := 24) C dX4_perform_142 (by decide) ?_
      exact zr_sub [3, 4, 1, 0] rfl (h24 v2_11 v3_17 s16 h)
    · skip
      refine zr_iconst C dX4_perform_128 (q := 129) (v := (1 : Int32)) (by decide) rfl ?_
      refine zr_goto (q := 133) C dX4_perform_129 (by decide) ?_
      obtain ⟨r12, hc_133, h⟩ := zx_b1_so h
      refine zr_cvI (q := 136) C (As := [.int (s 50 7), .int (1 : Int32)]) (k := 1) (rest := [.ref (zz_d Z 50)]) dX4_perform_133 (zX_Program_next_met C.2.2.2.2.1 C.2.2.2.1 hc_133) zX_vX4_64 zX_o1 ⟨by decide, by decide⟩ rfl (Nat.le_of_ble_eq_true rfl) rfl rfl ?_
      refine zr_put C dX4_perform_136 (q := 139) zX_pX4_35_50 rfl rfl rfl ?_
      refine zr_ls h (fun s13 h => ?_)
      refine zr_iinc C dX4_perform_139 (q := 142) h (by decide) 4 rfl (by decide) (lw := fun v3_14 => [(3, .int v3_14), (2, .int v2_11), (5, .int t0), (0, .ref (zz_d Z 50)), (1, .ref (zz_d Z 47)), (4, .int v4)]) (fun _ => rfl) rfl (fun v3_14 h => ?_)
      refine zr_goto (q := 24) C dX4_perform_142 (by decide) ?_
      exact zr_sub [3, 4, 1, 0] rfl (h24 v2_11 v3_14 s13 h)
  · skip
    exact zr_sub [1, 0] rfl (h101 t0 s h)
set_option maxRecDepth 100000 in
set_option maxHeartbeats 4000000 in
theorem zX_Machine_perform_3_L24_w {Z : zx_Z} (C : zx_ok zX_sd Z cX4_perform 6 RX4 4 89) {r : Int32 × zx_S} {k101 : Int32 → zx_S → Option (Int32 × zx_S)} (hr : zx_rI zX_sd Z cX4_perform 6 .int r.1 r.2) (h101 : ∀ (a0 : Int32) (s1 : zx_S), k101 a0 s1 = some r → zW zX_sd Z 6 101 [(0, .ref (zz_d Z 50)), (5, .int a0)] [] s1) : ∀ (n : Nat) (v2 : Int32) (v3 : Int32) (s : zx_S), zX_Machine_perform_3_L24 k101 n v2 v3 s = some r → zW zX_sd Z 6 24 [(0, .ref (zz_d Z 50)), (1, .ref (zz_d Z 47)), (2, .int v2), (3, .int v3)] [] s := by
  intro n
  induction n with
  | zero => intro v2 v3 s h; unfold zX_Machine_perform_3_L24 at h; cases h
  | succ n ih =>
    intro v2 v3 s h
    unfold zX_Machine_perform_3_L24 at h
    refine zr_iload_n C dX4_perform_24 (q := 25) rfl 3 rfl rfl ?_
    refine zr_aload_n C dX4_perform_25 (q := 26) rfl 0 rfl rfl ?_
    refine zr_get C dX4_perform_26 (q := 29) zX_gX4_18_50 rfl ?_
    refine zr_icmp_gt (tgt := 145) (q := 32) C dX4_perform_29 h (by decide) rfl (fun h => ?_) (fun h => ?_)
    · skip
      refine zr_iconst C dX4_perform_145 (q := 146) (v := (1 : Int32)) (by decide) rfl ?_
      exact zr_retI dX4_perform_146 h hr
    · skip
      refine zr_aload_n C dX4_perform_32 (q := 33) rfl 1 rfl rfl ?_
      refine zr_iload_n C dX4_perform_33 (q := 34) rfl 2 rfl rfl ?_
      refine zr_aload_n C dX4_perform_34 (q := 35) rfl 0 rfl rfl ?_
      refine zr_get C dX4_perform_35 (q := 38) zX_gX4_35_50 rfl ?_
      obtain ⟨s5, hc_38, h⟩ := zx_b1_so h
      refine zr_caV (q := 41) C (As := [.int v2, .int (s 50 7)]) (k := 47) (rest := []) dX4_perform_38 (zX_ValueForm_begin_2_met C.2.2.2.2.1 C.2.2.2.1 hc_38) zX_bX4_38_X8 zX_o47 ⟨by decide, by decide⟩ rfl (Nat.le_of_ble_eq_true rfl) rfl rfl ?_
      refine zr_aload_n C dX4_perform_41 (q := 42) rfl 0 rfl rfl ?_
      refine zr_aload_n C dX4_perform_42 (q := 43) rfl 1 rfl rfl ?_
      obtain ⟨r6, s7, hc_43, h⟩ := zx_b2_so h
      refine zr_cvI (q := 46) C (As := [.ref (zz_d Z 47)]) (k := 50) (rest := []) dX4_perform_43 (zX_Machine_followBlock_3_met C.2.2.2.2.1 C.2.2.2.1 hc_43) zX_vX4_44 zX_o50 ⟨by decide, by decide⟩ rfl (Nat.le_of_ble_eq_true rfl) rfl rfl ?_
      refine zr_if_eq (tgt := 56) (q := 49) C dX4_perform_46 h (by decide) rfl (fun h => ?_) (fun h => ?_)
      · skip
        refine zr_iconst C dX4_perform_56 (q := 57) (v := (1 : Int32)) (by decide) rfl ?_
        exact zr_retI dX4_perform_57 h hr
      · skip
        refine zr_aload_n C dX4_perform_49 (q := 50) rfl 0 rfl rfl ?_
        obtain ⟨r8, s9, hc_50, h⟩ := zx_b2_so h
        refine zr_cvI (q := 53) C (As := []) (k := 50) (rest := []) dX4_perform_50 (zX_Machine_pay_met C.2.2.2.2.1 C.2.2.2.1 hc_50) zX_vX4_48 zX_o50 ⟨by decide, by decide⟩ rfl (Nat.le_of_ble_eq_true rfl) rfl rfl ?_
        refine zr_if_ne (tgt := 58) (q := 56) C dX4_perform_53 h (by decide) rfl (fun h => ?_) (fun h => ?_)
        · skip
          refine zr_aload_n C dX4_perform_58 (q := 59) rfl 0 rfl rfl ?_
          refine zr_get C dX4_perform_59 (q := 62) zX_gX4_22_50 rfl ?_
          refine zr_aload_n C dX4_perform_62 (q := 63) rfl 0 rfl rfl ?_
          refine zr_get C dX4_perform_63 (q := 66) zX_gX4_35_50 rfl ?_
          obtain ⟨r10, hc_66, h⟩ := zx_b1_so h
          refine zr_cvI (q := 69) C (As := [.int (s9 50 7)]) (k := 1) (rest := []) dX4_perform_66 (zX_Program_howCounts_met C.2.2.2.2.1 C.2.2.2.1 hc_66) zX_vX4_52 zX_o1 ⟨by decide, by decide⟩ rfl (Nat.le_of_ble_eq_true rfl) rfl rfl ?_
          refine zr_istore C dX4_perform_69 (q := 71) (by decide) (lv' := [(4, .int r10), (0, .ref (zz_d Z 50)), (1, .ref (zz_d Z 47)), (2, .int v2), (3, .int v3)]) rfl rfl ?_
          refine zr_iload C dX4_perform_71 (q := 73) 0 rfl rfl ?_
          refine zr_iconst C dX4_perform_73 (q := 74) (v := (1 : Int32)) (by decide) rfl ?_
          refine zr_icmp_ne (tgt := 81) (q := 77) C dX4_perform_74 h (by decide) rfl (fun h => ?_) (fun h => ?_)
          · skip
            refine zr_aload_n C dX4_perform_81 (q := 82) rfl 2 rfl rfl ?_
            refine zr_get C dX4_perform_82 (q := 85) zX_gX4_58_47 rfl ?_
            refine zr_aload_n C dX4_perform_85 (q := 86) rfl 2 rfl rfl ?_
            refine zr_aload_n C dX4_perform_86 (q := 87) rfl 1 rfl rfl ?_
            refine zr_get C dX4_perform_87 (q := 90) zX_gX4_35_50 rfl ?_
            obtain ⟨r18, hc_90, h⟩ := zx_b1_so h
            refine zr_caI (q := 93) C (As := [.int (s9 50 7)]) (k := 47) (rest := [.ref (zz_d Z 48)]) dX4_perform_90 (zX_ValueForm_endCell_2_met C.2.2.2.2.1 C.2.2.2.1 hc_90) zX_bX4_61_X8 zX_o47 ⟨by decide, by decide⟩ rfl (Nat.le_of_ble_eq_true rfl) rfl rfl ?_
            obtain ⟨hin_93, h⟩ := zx_ck_so h
            refine zr_iald C dX4_perform_93 (q := 94) zX_a48 hin_93 rfl ?_
            exact zr_sub [1, 2, 4, 0] rfl (zX_Machine_perform_3_J94_w C v3 r10 (s9 48 (r18).toNatClampNeg) s9 hr (ih) (h101) h)
          · skip
            refine zr_iconst C dX4_perform_77 (q := 78) (v := (0 : Int32)) (by decide) rfl ?_
            refine zr_goto (q := 94) C dX4_perform_78 (by decide) ?_
            exact zr_sub [1, 2, 4, 0] rfl (zX_Machine_perform_3_J94_w C v3 r10 (0 : Int32) s9 hr (ih) (h101) h)
        · skip
          refine zr_iconst C dX4_perform_56 (q := 57) (v := (1 : Int32)) (by decide) rfl ?_
          exact zr_retI dX4_perform_57 h hr
set_option maxRecDepth 100000 in
set_option maxHeartbeats 4000000 in
theorem zX_Machine_perform_3_w {Z : zx_Z} (C : zx_ok zX_sd Z cX4_perform 6 RX4 4 89) {r : Int32 × zx_S} (s : zx_S) (hr : zx_rI zX_sd Z cX4_perform 6 .int r.1 r.2) (h : zX_Machine_perform_3 s = some r) : zW zX_sd Z 6 0 [(0, .ref (zz_d Z 50)), (1, .ref (zz_d Z 47))] [] s := by
  unfold zX_Machine_perform_3 at h
  refine zr_aload_n C dX4_perform_0 (q := 1) rfl 0 rfl rfl ?_
  refine zr_iconst C dX4_perform_1 (q := 2) (v := (0 : Int32)) (by decide) rfl ?_
  refine zr_put C dX4_perform_2 (q := 5) zX_pX4_26_50 rfl rfl rfl ?_
  refine zr_ls h (fun s1 h => ?_)
  refine zr_aload_n C dX4_perform_5 (q := 6) rfl 0 rfl rfl ?_
  refine zr_iconst C dX4_perform_6 (q := 7) (v := (0 : Int32)) (by decide) rfl ?_
  refine zr_put C dX4_perform_7 (q := 10) zX_pX4_29_50 rfl rfl rfl ?_
  refine zr_ls h (fun s2 h => ?_)
  refine zr_aload_n C dX4_perform_10 (q := 11) rfl 0 rfl rfl ?_
  refine zr_iconst C dX4_perform_11 (q := 12) (v := (0 : Int32)) (by decide) rfl ?_
  refine zr_put C dX4_perform_12 (q := 15) zX_pX4_32_50 rfl rfl rfl ?_
  refine zr_ls h (fun s3 h => ?_)
  refine zr_aload_n C dX4_perform_15 (q := 16) rfl 0 rfl rfl ?_
  refine zr_iconst C dX4_perform_16 (q := 17) (v := (0 : Int32)) (by decide) rfl ?_
  refine zr_put C dX4_perform_17 (q := 20) zX_pX4_35_50 rfl rfl rfl ?_
  refine zr_ls h (fun s4 h => ?_)
  refine zr_iconst C dX4_perform_20 (q := 21) (v := (-1 : Int32)) (by decide) rfl ?_
  refine zr_istore_n C dX4_perform_21 (q := 22) rfl (by decide) (lv' := [(2, .int (-1 : Int32)), (0, .ref (zz_d Z 50)), (1, .ref (zz_d Z 47))]) rfl rfl ?_
  refine zr_iconst C dX4_perform_22 (q := 23) (v := (0 : Int32)) (by decide) rfl ?_
  refine zr_istore_n C dX4_perform_23 (q := 24) rfl (by decide) (lv' := [(3, .int (0 : Int32)), (2, .int (-1 : Int32)), (0, .ref (zz_d Z 50)), (1, .ref (zz_d Z 47))]) rfl rfl ?_
  refine zr_sub [2, 3, 1, 0] rfl (zX_Machine_perform_3_L24_w C hr (fun v5_19 s20 h => ?_) 10000 (-1 : Int32) (0 : Int32) s4 h)
  · skip
    refine zr_aload_n C dX4_perform_101 (q := 102) rfl 0 rfl rfl ?_
    refine zr_iload C dX4_perform_102 (q := 104) 1 rfl rfl ?_
    refine zr_put C dX4_perform_104 (q := 107) zX_pX4_26_50 rfl rfl rfl ?_
    refine zr_ls h (fun s21 h => ?_)
    refine zr_iconst C dX4_perform_107 (q := 108) (v := (0 : Int32)) (by decide) rfl ?_
    exact zr_retI dX4_perform_108 h hr
theorem zX_Machine_perform_3_met {l : Launch} {D : va_G} {cz : ClassId × ClassId} {ad : Nat → Nat} (hS : zx_So zX_sd) (hi : zx_I zX_sd ad) {s : zx_S} {v : Int32} {s1 : zx_S} (h : zX_Machine_perform_3 s = some (v, s1)) : zx_MI zX_sd l D cz ad yX4_perform cX4_perform 6 .int 4 89 [.ref (ad 50), .ref (ad 47)] s v s1 := zx_metI hS hi (by decide +kernel) rfl (Nat.le_of_ble_eq_true rfl) (fun Z e1 e2 e3 e4 C hr => by subst e1 e2 e3 e4; exact zX_Machine_perform_3_w (r := (v, s1)) C s hr h)
set_option maxRecDepth 100000 in
set_option maxHeartbeats 4000000 in
theorem zX_ValueBench_run_w {Z : zx_Z} (C : zx_ok zX_sd Z cX10_run 6 RX10 6 140) {r : Int32 × zx_S} (p1 p2 p3 p4 p5 : Int32) (s : zx_S) (hr : zx_rI zX_sd Z cX10_run 6 .int r.1 r.2) (h : zX_ValueBench_run p1 p2 p3 p4 p5 s = some r) : zW zX_sd Z 6 0 [(0, .ref (zz_d Z 0)), (1, .int p1), (2, .int p2), (3, .int p3), (4, .int p4), (5, .int p5)] [] s := by
  unfold zX_ValueBench_run at h
  refine zr_aload_n C dX10_run_0 (q := 1) rfl 0 rfl rfl ?_
  refine zr_get C dX10_run_1 (q := 4) zX_gX10_12_0 rfl ?_
  refine zr_get C dX10_run_4 (q := 7) zX_gX10_75_1 rfl ?_
  refine zr_if_eq (tgt := 19) (q := 10) C dX10_run_7 h (by decide) rfl (fun h => ?_) (fun h => ?_)
  · skip
    refine zr_iconst C dX10_run_19 (q := 20) (v := (-1 : Int32)) (by decide) rfl ?_
    exact zr_retI dX10_run_20 h hr
  · skip
    refine zr_iload_n C dX10_run_10 (q := 11) rfl 1 rfl rfl ?_
    refine zr_if_lt (tgt := 19) (q := 14) C dX10_run_11 h (by decide) rfl (fun h => ?_) (fun h => ?_)
    · skip
      refine zr_iconst C dX10_run_19 (q := 20) (v := (-1 : Int32)) (by decide) rfl ?_
      exact zr_retI dX10_run_20 h hr
    · skip
      refine zr_iload_n C dX10_run_14 (q := 15) rfl 1 rfl rfl ?_
      refine zr_iconst C dX10_run_15 (q := 16) (v := (2 : Int32)) (by decide) rfl ?_
      refine zr_icmp_le (tgt := 21) (q := 19) C dX10_run_16 h (by decide) rfl (fun h => ?_) (fun h => ?_)
      · skip
        refine zr_aload_n C dX10_run_21 (q := 22) rfl 0 rfl rfl ?_
        obtain ⟨s1, hc_22, h⟩ := zx_b1_so h
        refine zr_cvV (q := 25) C (As := []) (k := 0) (rest := []) dX10_run_22 (zX_ValueBench_refresh_met C.2.2.2.2.1 C.2.2.2.1 hc_22) zX_vX10_104 zX_o0 ⟨by decide, by decide⟩ rfl (Nat.le_of_ble_eq_true rfl) rfl rfl ?_
        refine zr_aload_n C dX10_run_25 (q := 26) rfl 0 rfl rfl ?_
        refine zr_get C dX10_run_26 (q := 29) zX_gX10_67_0 rfl ?_
        refine zr_iload_n C dX10_run_29 (q := 30) rfl 2 rfl rfl ?_
        refine zr_iload_n C dX10_run_30 (q := 31) rfl 3 rfl rfl ?_
        refine zr_iload C dX10_run_31 (q := 33) 4 rfl rfl ?_
        refine zr_iload C dX10_run_33 (q := 35) 5 rfl rfl ?_
        obtain ⟨s2, hc_35, h⟩ := zx_b1_so h
        refine zr_cvV (q := 38) C (As := [.int p2, .int p3, .int p4, .int p5]) (k := 50) (rest := []) dX10_run_35 (zX_Machine_takeInputs_met C.2.2.2.2.1 C.2.2.2.1 hc_35) zX_vX10_201 zX_o50 ⟨by decide, by decide⟩ rfl (Nat.le_of_ble_eq_true rfl) rfl rfl ?_
        refine zr_aload_n C dX10_run_38 (q := 39) rfl 0 rfl rfl ?_
        refine zr_get C dX10_run_39 (q := 42) zX_gX10_67_0 rfl ?_
        refine zr_iload_n C dX10_run_42 (q := 43) rfl 1 rfl rfl ?_
        refine zr_if_ne (tgt := 53) (q := 46) C dX10_run_43 h (by decide) rfl (fun h => ?_) (fun h => ?_)
        · skip
          refine zr_iload_n C dX10_run_53 (q := 54) rfl 1 rfl rfl ?_
          refine zr_iconst C dX10_run_54 (q := 55) (v := (1 : Int32)) (by decide) rfl ?_
          refine zr_icmp_ne (tgt := 65) (q := 58) C dX10_run_55 h (by decide) rfl (fun h => ?_) (fun h => ?_)
          · skip
            refine zr_aload_n C dX10_run_65 (q := 66) rfl 0 rfl rfl ?_
            refine zr_get C dX10_run_66 (q := 69) zX_gX10_61_0 rfl ?_
            obtain ⟨r7, s8, hc_69, h⟩ := zx_b2_so h
            refine zr_cvI (q := 72) C (As := [.ref (zz_d Z 47)]) (k := 50) (rest := []) dX10_run_69 (zX_Machine_perform_3_met C.2.2.2.2.1 C.2.2.2.1 hc_69) zX_vX10_205 zX_o50 ⟨by decide, by decide⟩ rfl (Nat.le_of_ble_eq_true rfl) rfl rfl ?_
            exact zr_retI dX10_run_72 h hr
          · skip
            refine zr_aload_n C dX10_run_58 (q := 59) rfl 0 rfl rfl ?_
            refine zr_get C dX10_run_59 (q := 62) zX_gX10_58_0 rfl ?_
            refine zr_goto (q := 69) C dX10_run_62 (by decide) ?_
            obtain ⟨r5, s6, hc_69, h⟩ := zx_b2_so h
            refine zr_cvI (q := 72) C (As := [.ref (zz_d Z 44)]) (k := 50) (rest := []) dX10_run_69 (zX_Machine_perform_2_met C.2.2.2.2.1 C.2.2.2.1 hc_69) zX_vX10_205 zX_o50 ⟨by decide, by decide⟩ rfl (Nat.le_of_ble_eq_true rfl) rfl rfl ?_
            exact zr_retI dX10_run_72 h hr
        · skip
          refine zr_aload_n C dX10_run_46 (q := 47) rfl 0 rfl rfl ?_
          refine zr_get C dX10_run_47 (q := 50) zX_gX10_49_0 rfl ?_
          refine zr_goto (q := 69) C dX10_run_50 (by decide) ?_
          obtain ⟨r3, s4, hc_69, h⟩ := zx_b2_so h
          refine zr_cvI (q := 72) C (As := [.ref (zz_d Z 42)]) (k := 50) (rest := []) dX10_run_69 (zX_Machine_perform_met C.2.2.2.2.1 C.2.2.2.1 hc_69) zX_vX10_205 zX_o50 ⟨by decide, by decide⟩ rfl (Nat.le_of_ble_eq_true rfl) rfl rfl ?_
          exact zr_retI dX10_run_72 h hr
      · skip
        refine zr_iconst C dX10_run_19 (q := 20) (v := (-1 : Int32)) (by decide) rfl ?_
        exact zr_retI dX10_run_20 h hr
theorem zX_ValueBench_run_met {l : Launch} {D : va_G} {cz : ClassId × ClassId} {ad : Nat → Nat} (hS : zx_So zX_sd) (hi : zx_I zX_sd ad) {p1 p2 p3 p4 p5 : Int32} {s : zx_S} {v : Int32} {s1 : zx_S} (h : zX_ValueBench_run p1 p2 p3 p4 p5 s = some (v, s1)) : zx_MI zX_sd l D cz ad yX10_run cX10_run 6 .int 6 140 [.ref (ad 0), .int p1, .int p2, .int p3, .int p4, .int p5] s v s1 := zx_metI hS hi (by decide +kernel) rfl (Nat.le_of_ble_eq_true rfl) (fun Z e1 e2 e3 e4 C hr => by subst e1 e2 e3 e4; exact zX_ValueBench_run_w (r := (v, s1)) C p1 p2 p3 p4 p5 s hr h)
set_option maxRecDepth 100000 in
set_option maxHeartbeats 4000000 in
theorem zX_ValueBench_fuel_w {Z : zx_Z} (C : zx_ok zX_sd Z cX10_fuel 3 RX10 0 0) {r : Int32 × zx_S} (p1 : Int32) (s : zx_S) (hr : zx_rI zX_sd Z cX10_fuel 3 .int r.1 r.2) (h : zX_ValueBench_fuel p1 s = some r) : zW zX_sd Z 3 0 [(0, .ref (zz_d Z 0)), (1, .int p1)] [] s := by
  unfold zX_ValueBench_fuel at h
  refine zr_iload_n C dX10_fuel_0 (q := 1) rfl 1 rfl rfl ?_
  refine zr_iconst C dX10_fuel_1 (q := 2) (v := (1 : Int32)) (by decide) rfl ?_
  refine zr_icmp_lt (tgt := 12) (q := 5) C dX10_fuel_2 h (by decide) rfl (fun h => ?_) (fun h => ?_)
  · skip
    refine zr_iconst C dX10_fuel_12 (q := 13) (v := (-1 : Int32)) (by decide) rfl ?_
    exact zr_retI dX10_fuel_13 h hr
  · skip
    refine zr_iload_n C dX10_fuel_5 (q := 6) rfl 1 rfl rfl ?_
    refine zr_sipush C dX10_fuel_6 (q := 9) (v := (5000 : Int32)) (by decide) rfl ?_
    refine zr_icmp_le (tgt := 14) (q := 12) C dX10_fuel_9 h (by decide) rfl (fun h => ?_) (fun h => ?_)
    · skip
      refine zr_aload_n C dX10_fuel_14 (q := 15) rfl 0 rfl rfl ?_
      refine zr_get C dX10_fuel_15 (q := 18) zX_gX10_67_0 rfl ?_
      refine zr_get C dX10_fuel_18 (q := 21) zX_gX10_209_50 rfl ?_
      refine zr_top h (fun v2_1 h => ?_)
      refine zr_istore_n C dX10_fuel_21 (q := 22) rfl (by decide) (lv' := [(2, .int v2_1), (0, .ref (zz_d Z 0)), (1, .int p1)]) rfl rfl ?_
      refine zr_aload_n C dX10_fuel_22 (q := 23) rfl 1 rfl rfl ?_
      refine zr_get C dX10_fuel_23 (q := 26) zX_gX10_67_0 rfl ?_
      refine zr_iload_n C dX10_fuel_26 (q := 27) rfl 2 rfl rfl ?_
      refine zr_put C dX10_fuel_27 (q := 30) zX_pX10_209_50 rfl rfl rfl ?_
      refine zr_ls h (fun s2 h => ?_)
      refine zr_iload_n C dX10_fuel_30 (q := 31) rfl 0 rfl rfl ?_
      exact zr_retI dX10_fuel_31 h hr
    · skip
      refine zr_iconst C dX10_fuel_12 (q := 13) (v := (-1 : Int32)) (by decide) rfl ?_
      exact zr_retI dX10_fuel_13 h hr
theorem zX_ValueBench_fuel_met {l : Launch} {D : va_G} {cz : ClassId × ClassId} {ad : Nat → Nat} (hS : zx_So zX_sd) (hi : zx_I zX_sd ad) {p1 : Int32} {s : zx_S} {v : Int32} {s1 : zx_S} (h : zX_ValueBench_fuel p1 s = some (v, s1)) : zx_MI zX_sd l D cz ad yX10_fuel cX10_fuel 3 .int 0 0 [.ref (ad 0), .int p1] s v s1 := zx_metI hS hi (by decide +kernel) rfl (Nat.le_of_ble_eq_true rfl) (fun Z e1 e2 e3 e4 C hr => by subst e1 e2 e3 e4; exact zX_ValueBench_fuel_w (r := (v, s1)) C p1 s hr h)
set_option maxRecDepth 100000 in
set_option maxHeartbeats 4000000 in
theorem zX_ValueBench_ran_w {Z : zx_Z} (C : zx_ok zX_sd Z cX10_ran 2 RX10 0 0) {r : Int32} (p1 : Int32) (s : zx_S) (hr : zx_rI zX_sd Z cX10_ran 2 .int r s) (h : zX_ValueBench_ran p1 s = some r) : zW zX_sd Z 2 0 [(0, .ref (zz_d Z 0)), (1, .int p1)] [] s := by
  unfold zX_ValueBench_ran at h
  refine zr_iload_n C dX10_ran_0 (q := 1) rfl 1 rfl rfl ?_
  by_cases e0 : p1 = (0 : Int32)
  · rw [if_pos e0] at h
    refine zr_tableIn (tgt := 32) (off := 31) C dX10_ran_1 (by rw [e0]; decide) (by rw [e0]; decide) (by rw [e0] <;> exact rfl) (by decide) ?_
    refine zr_aload_n C dX10_ran_32 (q := 33) rfl 0 rfl rfl ?_
    refine zr_get C dX10_ran_33 (q := 36) zX_gX10_67_0 rfl ?_
    refine zr_get C dX10_ran_36 (q := 39) zX_gX10_212_50 rfl ?_
    exact zr_retR dX10_ran_39 h hr
  · rw [if_neg e0] at h
    by_cases e1 : p1 = (1 : Int32)
    · rw [if_pos e1] at h
      refine zr_tableIn (tgt := 40) (off := 39) C dX10_ran_1 (by rw [e1]; decide) (by rw [e1]; decide) (by rw [e1] <;> exact rfl) (by decide) ?_
      refine zr_aload_n C dX10_ran_40 (q := 41) rfl 0 rfl rfl ?_
      refine zr_get C dX10_ran_41 (q := 44) zX_gX10_67_0 rfl ?_
      refine zr_get C dX10_ran_44 (q := 47) zX_gX10_215_50 rfl ?_
      exact zr_retR dX10_ran_47 h hr
    · rw [if_neg e1] at h
      by_cases e2 : p1 = (2 : Int32)
      · rw [if_pos e2] at h
        refine zr_tableIn (tgt := 48) (off := 47) C dX10_ran_1 (by rw [e2]; decide) (by rw [e2]; decide) (by rw [e2] <;> exact rfl) (by decide) ?_
        refine zr_aload_n C dX10_ran_48 (q := 49) rfl 0 rfl rfl ?_
        refine zr_get C dX10_ran_49 (q := 52) zX_gX10_67_0 rfl ?_
        refine zr_get C dX10_ran_52 (q := 55) zX_gX10_218_50 rfl ?_
        exact zr_retR dX10_ran_55 h hr
      · rw [if_neg e2] at h
        by_cases e3 : p1 = (3 : Int32)
        · rw [if_pos e3] at h
          refine zr_tableIn (tgt := 56) (off := 55) C dX10_ran_1 (by rw [e3]; decide) (by rw [e3]; decide) (by rw [e3] <;> exact rfl) (by decide) ?_
          refine zr_aload_n C dX10_ran_56 (q := 57) rfl 0 rfl rfl ?_
          refine zr_get C dX10_ran_57 (q := 60) zX_gX10_67_0 rfl ?_
          refine zr_get C dX10_ran_60 (q := 63) zX_gX10_221_50 rfl ?_
          exact zr_retR dX10_ran_63 h hr
        · rw [if_neg e3] at h
          refine zr_tableOut (tgt := 64) C dX10_ran_1 (by have f0 := lv_neT (a := 0) e0 (by decide); have f1 := lv_neT (a := 1) e1 (by decide); have f2 := lv_neT (a := 2) e2 (by decide); have f3 := lv_neT (a := 3) e3 (by decide); omega) (by decide) ?_
          refine zr_iconst C dX10_ran_64 (q := 65) (v := (0 : Int32)) (by decide) rfl ?_
          exact zr_retR dX10_ran_65 h hr
theorem zX_ValueBench_ran_met {l : Launch} {D : va_G} {cz : ClassId × ClassId} {ad : Nat → Nat} (hS : zx_So zX_sd) (hi : zx_I zX_sd ad) {p1 : Int32} {s : zx_S} {v : Int32} (h : zX_ValueBench_ran p1 s = some v) : zx_MI zX_sd l D cz ad yX10_ran cX10_ran 2 .int 0 0 [.ref (ad 0), .int p1] s v s := zx_metI hS hi (by decide +kernel) rfl (Nat.le_of_ble_eq_true rfl) (fun Z e1 e2 e3 e4 C hr => by subst e1 e2 e3 e4; exact zX_ValueBench_ran_w C p1 s hr h)
