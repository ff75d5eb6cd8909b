set_option maxRecDepth 100000 in
set_option maxHeartbeats 4000000 in
theorem zM_ValueBenchModel_block_w {Z : zx_Z} (C : zx_ok zM_sd Z cX11_block 1 RX11 0 0) {r : Int32 × zx_S} (s : zx_S) (hr : zx_rI zM_sd Z cX11_block 1 .int r.1 r.2) (h : zM_ValueBenchModel_block s = some r) : zW zM_sd Z 1 0 [(0, .ref (zz_d Z 0))] [] s := by
  unfold zM_ValueBenchModel_block at h
  refine zr_aload_n C dX11_block_0 (q := 1) rfl 0 rfl rfl ?_
  refine zr_get C dX11_block_1 (q := 4) zM_gX11_120_0 rfl ?_
  refine zr_bipush C dX11_block_4 (q := 6) (v := (16 : Int32)) (by decide) rfl ?_
  refine zr_icmp_ne (tgt := 11) (q := 9) C dX11_block_6 h (by decide) rfl (fun h => ?_) (fun h => ?_)
  · skip
    refine zr_aload_n C dX11_block_11 (q := 12) rfl 0 rfl rfl ?_
    refine zr_get C dX11_block_12 (q := 15) zM_gX11_22_0 rfl ?_
    refine zr_aload_n C dX11_block_15 (q := 16) rfl 0 rfl rfl ?_
    refine zr_get C dX11_block_16 (q := 19) zM_gX11_120_0 rfl ?_
    refine zr_iconst C dX11_block_19 (q := 20) (v := (0 : Int32)) (by decide) rfl ?_
    obtain ⟨hin_20, h⟩ := zx_ck_so h
    refine zr_iast C dX11_block_20 (q := 21) zM_a5 hin_20 rfl ?_
    refine zr_ls h (fun s1 h => ?_)
    refine zr_aload_n C dX11_block_21 (q := 22) rfl 0 rfl rfl ?_
    refine zr_get C dX11_block_22 (q := 25) zM_gX11_25_0 rfl ?_
    refine zr_aload_n C dX11_block_25 (q := 26) rfl 0 rfl rfl ?_
    refine zr_get C dX11_block_26 (q := 29) zM_gX11_120_0 rfl ?_
    refine zr_iconst C dX11_block_29 (q := 30) (v := (0 : Int32)) (by decide) rfl ?_
    obtain ⟨hin_30, h⟩ := zx_ck_so h
    refine zr_iast C dX11_block_30 (q := 31) zM_a6 hin_30 rfl ?_
    refine zr_ls h (fun s2 h => ?_)
    refine zr_aload_n C dX11_block_31 (q := 32) rfl 0 rfl rfl ?_
    refine zr_get C dX11_block_32 (q := 35) zM_gX11_28_0 rfl ?_
    refine zr_aload_n C dX11_block_35 (q := 36) rfl 0 rfl rfl ?_
    refine zr_get C dX11_block_36 (q := 39) zM_gX11_120_0 rfl ?_
    refine zr_iconst C dX11_block_39 (q := 40) (v := (0 : Int32)) (by decide) rfl ?_
    obtain ⟨hin_40, h⟩ := zx_ck_so h
    refine zr_iast C dX11_block_40 (q := 41) zM_a7 hin_40 rfl ?_
    refine zr_ls h (fun s3 h => ?_)
    refine zr_aload_n C dX11_block_41 (q := 42) rfl 0 rfl rfl ?_
    refine zr_dup C dX11_block_42 (q := 43) rfl rfl ?_
    refine zr_get C dX11_block_43 (q := 46) zM_gX11_120_0 rfl ?_
    refine zr_iconst C dX11_block_46 (q := 47) (v := (1 : Int32)) (by decide) rfl ?_
    refine zr_iadd C dX11_block_47 (q := 48) rfl ?_
    refine zr_top h (fun x4 h => ?_)
    refine zr_put C dX11_block_48 (q := 51) zM_pX11_120_0 rfl rfl rfl ?_
    refine zr_ls h (fun s5 h => ?_)
    refine zr_aload_n C dX11_block_51 (q := 52) rfl 0 rfl rfl ?_
    refine zr_iconst C dX11_block_52 (q := 53) (v := (0 : Int32)) (by decide) rfl ?_
    refine zr_put C dX11_block_53 (q := 56) zM_pX11_123_0 (by decide) (by decide) rfl ?_
    refine zr_ls h (fun s6 h => ?_)
    refine zr_aload_n C dX11_block_56 (q := 57) rfl 0 rfl rfl ?_
    refine zr_get C dX11_block_57 (q := 60) zM_gX11_120_0 rfl ?_
    refine zr_iconst C dX11_block_60 (q := 61) (v := (1 : Int32)) (by decide) rfl ?_
    refine zr_isub C dX11_block_61 (q := 62) rfl ?_
    exact zr_retI dX11_block_62 h hr
  · skip
    refine zr_iconst C dX11_block_9 (q := 10) (v := (-1 : Int32)) (by decide) rfl ?_
    exact zr_retI dX11_block_10 h hr
theorem zM_ValueBenchModel_block_met {l : Launch} {D : va_G} {cz : ClassId × ClassId} {ad : Nat → Nat} (hS : zx_So zM_sd) (hi : zx_I zM_sd ad) {s : zx_S} {v : Int32} {s1 : zx_S} (h : zM_ValueBenchModel_block s = some (v, s1)) : zx_MI zM_sd l D cz ad yX11_block cX11_block 1 .int 0 0 [.ref (ad 0)] s v s1 := zx_metI hS hi (by decide +kernel) rfl (Nat.le_of_ble_eq_true rfl) (fun Z e1 e2 e3 e4 C hr => by subst e1 e2 e3 e4; exact zM_ValueBenchModel_block_w (r := (v, s1)) C s hr h)
set_option maxRecDepth 100000 in
set_option maxHeartbeats 4000000 in
theorem zM_ValueBenchModel_isBlock_w {Z : zx_Z} (C : zx_ok zM_sd Z cX11_isBlock 2 RX11 0 0) {r : Int32} (p1 : Int32) (s : zx_S) (hr : zx_rI zM_sd Z cX11_isBlock 2 .boolean r s) (h : zM_ValueBenchModel_isBlock p1 s = some r) : zW zM_sd Z 2 0 [(0, .ref (zz_d Z 0)), (1, .int p1)] [] s := by
  unfold zM_ValueBenchModel_isBlock at h
  refine zr_iload_n C dX11_isBlock_0 (q := 1) rfl 1 rfl rfl ?_
  refine zr_if_lt (tgt := 16) (q := 4) C dX11_isBlock_1 h (by decide) rfl (fun h => ?_) (fun h => ?_)
  · skip
    refine zr_iconst C dX11_isBlock_16 (q := 17) (v := (0 : Int32)) (by decide) rfl ?_
    exact zr_retZR dX11_isBlock_17 (Or.inl rfl) h hr
  · skip
    refine zr_iload_n C dX11_isBlock_4 (q := 5) rfl 1 rfl rfl ?_
    refine zr_aload_n C dX11_isBlock_5 (q := 6) rfl 0 rfl rfl ?_
    refine zr_get C dX11_isBlock_6 (q := 9) zM_gX11_120_0 rfl ?_
    refine zr_icmp_ge (tgt := 16) (q := 12) C dX11_isBlock_9 h (by decide) rfl (fun h => ?_) (fun h => ?_)
    · skip
      refine zr_iconst C dX11_isBlock_16 (q := 17) (v := (0 : Int32)) (by decide) rfl ?_
      exact zr_retZR dX11_isBlock_17 (Or.inl rfl) h hr
    · skip
      refine zr_iconst C dX11_isBlock_12 (q := 13) (v := (1 : Int32)) (by decide) rfl ?_
      refine zr_goto (q := 17) C dX11_isBlock_13 (by decide) ?_
      exact zr_retZR dX11_isBlock_17 (Or.inr rfl) h hr
theorem zM_ValueBenchModel_isBlock_met {l : Launch} {D : va_G} {cz : ClassId × ClassId} {ad : Nat → Nat} (hS : zx_So zM_sd) (hi : zx_I zM_sd ad) {p1 : Int32} {s : zx_S} {v : Int32} (h : zM_ValueBenchModel_isBlock p1 s = some v) : zx_MI zM_sd l D cz ad yX11_isBlock cX11_isBlock 2 .boolean 0 0 [.ref (ad 0), .int p1] s v s := zx_metI hS hi (by decide +kernel) rfl (Nat.le_of_ble_eq_true rfl) (fun Z e1 e2 e3 e4 C hr => by subst e1 e2 e3 e4; exact zM_ValueBenchModel_isBlock_w C p1 s hr h)
set_option maxRecDepth 100000 in
set_option maxHeartbeats 4000000 in
theorem zM_ValueBenchModel_isVariable_w {Z : zx_Z} (C : zx_ok zM_sd Z cX11_isVariable 1 RX11 0 0) {r : Int32} (p0 : Int32) (s : zx_S) (hr : zx_rI zM_sd Z cX11_isVariable 1 .boolean r s) (h : zM_ValueBenchModel_isVariable p0 s = some r) : zW zM_sd Z 1 0 [(0, .int p0)] [] s := by
  unfold zM_ValueBenchModel_isVariable at h
  refine zr_iload_n C dX11_isVariable_0 (q := 1) rfl 0 rfl rfl ?_
  refine zr_if_lt (tgt := 14) (q := 4) C dX11_isVariable_1 h (by decide) rfl (fun h => ?_) (fun h => ?_)
  · skip
    refine zr_iconst C dX11_isVariable_14 (q := 15) (v := (0 : Int32)) (by decide) rfl ?_
    exact zr_retZR dX11_isVariable_15 (Or.inl rfl) h hr
  · skip
    refine zr_iload_n C dX11_isVariable_4 (q := 5) rfl 0 rfl rfl ?_
    refine zr_bipush C dX11_isVariable_5 (q := 7) (v := (10 : Int32)) (by decide) rfl ?_
    refine zr_icmp_ge (tgt := 14) (q := 10) C dX11_isVariable_7 h (by decide) rfl (fun h => ?_) (fun h => ?_)
    · skip
      refine zr_iconst C dX11_isVariable_14 (q := 15) (v := (0 : Int32)) (by decide) rfl ?_
      exact zr_retZR dX11_isVariable_15 (Or.inl rfl) h hr
    · skip
      refine zr_iconst C dX11_isVariable_10 (q := 11) (v := (1 : Int32)) (by decide) rfl ?_
      refine zr_goto (q := 15) C dX11_isVariable_11 (by decide) ?_
      exact zr_retZR dX11_isVariable_15 (Or.inr rfl) h hr
theorem zM_ValueBenchModel_isVariable_met {l : Launch} {D : va_G} {cz : ClassId × ClassId} {ad : Nat → Nat} (hS : zx_So zM_sd) (hi : zx_I zM_sd ad) {p0 : Int32} {s : zx_S} {v : Int32} (h : zM_ValueBenchModel_isVariable p0 s = some v) : zx_MI zM_sd l D cz ad yX11_isVariable cX11_isVariable 1 .boolean 0 0 [.int p0] s v s := zx_metI hS hi (by decide +kernel) rfl (Nat.le_of_ble_eq_true rfl) (fun Z e1 e2 e3 e4 C hr => by subst e1 e2 e3 e4; exact zM_ValueBenchModel_isVariable_w C p0 s hr h)
set_option maxRecDepth 100000 in
set_option maxHeartbeats 4000000 in
theorem zM_ValueBenchModel_put_w {Z : zx_Z} (C : zx_ok zM_sd Z cX11_put 7 RX11 1 21) {r : Int32 × zx_S} (p1 p2 p3 p4 p5 : Int32) (s : zx_S) (hr : zx_rI zM_sd Z cX11_put 7 .int r.1 r.2) (h : zM_ValueBenchModel_put p1 p2 p3 p4 p5 s = some r) : zW zM_sd Z 7 0 [(0, .ref (zz_d Z 0)), (1, .int p1), (2, .int p2), (3, .int p3), (4, .int p4), (5, .int p5)] [] s := by
  unfold zM_ValueBenchModel_put at h
  refine zr_aload_n C dX11_put_0 (q := 1) rfl 0 rfl rfl ?_
  refine zr_iload_n C dX11_put_1 (q := 2) rfl 1 rfl rfl ?_
  obtain ⟨r1, hc_2, h⟩ := zx_b1_so h
  refine zr_cvI (q := 5) C (As := [.int p1]) (k := 0) (rest := []) dX11_put_2 (zM_ValueBenchModel_isBlock_met C.2.2.2.2.1 C.2.2.2.1 hc_2) zM_vX11_127 zM_o0 ⟨by decide, by decide⟩ rfl (Nat.le_of_ble_eq_true rfl) rfl rfl ?_
  refine zr_if_eq (tgt := 34) (q := 8) C dX11_put_5 h (by decide) rfl (fun h => ?_) (fun h => ?_)
  · skip
    refine zr_iconst C dX11_put_34 (q := 35) (v := (-1 : Int32)) (by decide) rfl ?_
    exact zr_retI dX11_put_35 h hr
  · skip
    refine zr_iload_n C dX11_put_8 (q := 9) rfl 2 rfl rfl ?_
    refine zr_if_lt (tgt := 34) (q := 12) C dX11_put_9 h (by decide) rfl (fun h => ?_) (fun h => ?_)
    · skip
      refine zr_iconst C dX11_put_34 (q := 35) (v := (-1 : Int32)) (by decide) rfl ?_
      exact zr_retI dX11_put_35 h hr
    · skip
      refine zr_iload_n C dX11_put_12 (q := 13) rfl 2 rfl rfl ?_
      refine zr_bipush C dX11_put_13 (q := 15) (v := (14 : Int32)) (by decide) rfl ?_
      refine zr_icmp_gt (tgt := 34) (q := 18) C dX11_put_15 h (by decide) rfl (fun h => ?_) (fun h => ?_)
      · skip
        refine zr_iconst C dX11_put_34 (q := 35) (v := (-1 : Int32)) (by decide) rfl ?_
        exact zr_retI dX11_put_35 h hr
      · skip
        refine zr_aload_n C dX11_put_18 (q := 19) rfl 0 rfl rfl ?_
        refine zr_get C dX11_put_19 (q := 22) zM_gX11_131_0 rfl ?_
        refine zr_bipush C dX11_put_22 (q := 24) (v := (100 : Int32)) (by decide) rfl ?_
        refine zr_icmp_eq (tgt := 34) (q := 27) C dX11_put_24 h (by decide) rfl (fun h => ?_) (fun h => ?_)
        · skip
          refine zr_iconst C dX11_put_34 (q := 35) (v := (-1 : Int32)) (by decide) rfl ?_
          exact zr_retI dX11_put_35 h hr
        · skip
          refine zr_iload_n C dX11_put_27 (q := 28) rfl 3 rfl rfl ?_
          obtain ⟨r2, hc_28, h⟩ := zx_b1_so h
          refine zr_csI (q := 31) C (As := [.int p3]) (rest := []) dX11_put_28 (zM_ValueBenchModel_isVariable_met C.2.2.2.2.1 C.2.2.2.1 hc_28) zM_sX11_134 ⟨by decide, by decide⟩ rfl (Nat.le_of_ble_eq_true rfl) rfl rfl ?_
          refine zr_if_ne (tgt := 36) (q := 34) C dX11_put_31 h (by decide) rfl (fun h => ?_) (fun h => ?_)
          · skip
            refine zr_iload_n C dX11_put_36 (q := 37) rfl 2 rfl rfl ?_
            refine zr_iconst C dX11_put_37 (q := 38) (v := (1 : Int32)) (by decide) rfl ?_
            refine zr_icmp_ne (tgt := 52) (q := 41) C dX11_put_38 h (by decide) rfl (fun h => ?_) (fun h => ?_)
            · skip
              refine zr_iload_n C dX11_put_52 (q := 53) rfl 2 rfl rfl ?_
              refine zr_iconst C dX11_put_53 (q := 54) (v := (2 : Int32)) (by decide) rfl ?_
              refine zr_icmp_ne (tgt := 65) (q := 57) C dX11_put_54 h (by decide) rfl (fun h => ?_) (fun h => ?_)
              · skip
                refine zr_iload_n C dX11_put_65 (q := 66) rfl 2 rfl rfl ?_
                refine zr_iconst C dX11_put_66 (q := 67) (v := (3 : Int32)) (by decide) rfl ?_
                refine zr_icmp_lt (tgt := 94) (q := 70) C dX11_put_67 h (by decide) rfl (fun h => ?_) (fun h => ?_)
                · skip
                  refine zr_bipush C dX11_put_94 (q := 96) (v := (100 : Int32)) (by decide) rfl ?_
                  refine zr_iload_n C dX11_put_96 (q := 97) rfl 1 rfl rfl ?_
                  refine zr_imul C dX11_put_97 (q := 98) rfl ?_
                  refine zr_aload_n C dX11_put_98 (q := 99) rfl 0 rfl rfl ?_
                  refine zr_get C dX11_put_99 (q := 102) zM_gX11_22_0 rfl ?_
                  refine zr_iload_n C dX11_put_102 (q := 103) rfl 1 rfl rfl ?_
                  obtain ⟨hin_103, h⟩ := zx_ck_so h
                  refine zr_iald C dX11_put_103 (q := 104) zM_a5 hin_103 rfl ?_
                  refine zr_iadd C dX11_put_104 (q := 105) rfl ?_
                  refine zr_top h (fun v6_123 h => ?_)
                  refine zr_istore C dX11_put_105 (q := 107) (by decide) (lv' := [(6, .int v6_123), (0, .ref (zz_d Z 0)), (1, .int p1), (2, .int p2), (3, .int p3), (4, .int p4), (5, .int p5)]) rfl rfl ?_
                  refine zr_aload_n C dX11_put_107 (q := 108) rfl 1 rfl rfl ?_
                  refine zr_get C dX11_put_108 (q := 111) zM_gX11_7_0 rfl ?_
                  refine zr_iload C dX11_put_111 (q := 113) 0 rfl rfl ?_
                  refine zr_iload_n C dX11_put_113 (q := 114) rfl 3 rfl rfl ?_
                  obtain ⟨hin_114, h⟩ := zx_ck_so h
                  refine zr_iast C dX11_put_114 (q := 115) zM_a1 hin_114 rfl ?_
                  refine zr_ls h (fun s124 h => ?_)
                  refine zr_aload_n C dX11_put_115 (q := 116) rfl 1 rfl rfl ?_
                  refine zr_get C dX11_put_116 (q := 119) zM_gX11_13_0 rfl ?_
                  refine zr_iload C dX11_put_119 (q := 121) 0 rfl rfl ?_
                  refine zr_iload_n C dX11_put_121 (q := 122) rfl 4 rfl rfl ?_
                  obtain ⟨hin_122, h⟩ := zx_ck_so h
                  refine zr_iast C dX11_put_122 (q := 123) zM_a2 hin_122 rfl ?_
                  refine zr_ls h (fun s125 h => ?_)
                  refine zr_aload_n C dX11_put_123 (q := 124) rfl 1 rfl rfl ?_
                  refine zr_get C dX11_put_124 (q := 127) zM_gX11_16_0 rfl ?_
                  refine zr_iload C dX11_put_127 (q := 129) 0 rfl rfl ?_
                  refine zr_iload C dX11_put_129 (q := 131) 5 rfl rfl ?_
                  obtain ⟨hin_131, h⟩ := zx_ck_so h
                  refine zr_iast C dX11_put_131 (q := 132) zM_a3 hin_131 rfl ?_
                  refine zr_ls h (fun s126 h => ?_)
                  refine zr_aload_n C dX11_put_132 (q := 133) rfl 1 rfl rfl ?_
                  refine zr_get C dX11_put_133 (q := 136) zM_gX11_19_0 rfl ?_
                  refine zr_iload C dX11_put_136 (q := 138) 0 rfl rfl ?_
                  refine zr_iload C dX11_put_138 (q := 140) 6 rfl rfl ?_
                  obtain ⟨hin_140, h⟩ := zx_ck_so h
                  refine zr_iast C dX11_put_140 (q := 141) zM_a4 hin_140 rfl ?_
                  refine zr_ls h (fun s127 h => ?_)
                  refine zr_aload_n C dX11_put_141 (q := 142) rfl 1 rfl rfl ?_
                  refine zr_get C dX11_put_142 (q := 145) zM_gX11_22_0 rfl ?_
                  refine zr_iload_n C dX11_put_145 (q := 146) rfl 2 rfl rfl ?_
                  refine zr_dup2 C dX11_put_146 (q := 147) rfl rfl rfl ?_
                  obtain ⟨hin_147, h⟩ := zx_ck_so h
                  refine zr_iald C dX11_put_147 (q := 148) zM_a5 hin_147 rfl ?_
                  refine zr_iconst C dX11_put_148 (q := 149) (v := (1 : Int32)) (by decide) rfl ?_
                  refine zr_iadd C dX11_put_149 (q := 150) rfl ?_
                  refine zr_top h (fun x128 h => ?_)
                  obtain ⟨hin_150, h⟩ := zx_ck_so h
                  refine zr_iast C dX11_put_150 (q := 151) zM_a5 hin_150 rfl ?_
                  refine zr_ls h (fun s129 h => ?_)
                  refine zr_aload_n C dX11_put_151 (q := 152) rfl 1 rfl rfl ?_
                  refine zr_dup C dX11_put_152 (q := 153) rfl rfl ?_
                  refine zr_get C dX11_put_153 (q := 156) zM_gX11_131_0 rfl ?_
                  refine zr_iconst C dX11_put_156 (q := 157) (v := (1 : Int32)) (by decide) rfl ?_
                  refine zr_iadd C dX11_put_157 (q := 158) rfl ?_
                  refine zr_top h (fun x130 h => ?_)
                  refine zr_put C dX11_put_158 (q := 161) zM_pX11_131_0 rfl rfl rfl ?_
                  refine zr_ls h (fun s131 h => ?_)
                  refine zr_aload_n C dX11_put_161 (q := 162) rfl 1 rfl rfl ?_
                  refine zr_iconst C dX11_put_162 (q := 163) (v := (0 : Int32)) (by decide) rfl ?_
                  refine zr_put C dX11_put_163 (q := 166) zM_pX11_123_0 (by decide) (by decide) rfl ?_
                  refine zr_ls h (fun s132 h => ?_)
                  refine zr_aload_n C dX11_put_166 (q := 167) rfl 1 rfl rfl ?_
                  refine zr_get C dX11_put_167 (q := 170) zM_gX11_131_0 rfl ?_
                  exact zr_retI dX11_put_170 h hr
                · skip
                  refine zr_iload_n C dX11_put_70 (q := 71) rfl 2 rfl rfl ?_
                  refine zr_bipush C dX11_put_71 (q := 73) (v := (14 : Int32)) (by decide) rfl ?_
                  refine zr_icmp_ge (tgt := 94) (q := 76) C dX11_put_73 h (by decide) rfl (fun h => ?_) (fun h => ?_)
                  · skip
                    refine zr_bipush C dX11_put_94 (q := 96) (v := (100 : Int32)) (by decide) rfl ?_
                    refine zr_iload_n C dX11_put_96 (q := 97) rfl 1 rfl rfl ?_
                    refine zr_imul C dX11_put_97 (q := 98) rfl ?_
                    refine zr_aload_n C dX11_put_98 (q := 99) rfl 0 rfl rfl ?_
                    refine zr_get C dX11_put_99 (q := 102) zM_gX11_22_0 rfl ?_
                    refine zr_iload_n C dX11_put_102 (q := 103) rfl 1 rfl rfl ?_
                    obtain ⟨hin_103, h⟩ := zx_ck_so h
                    refine zr_iald C dX11_put_103 (q := 104) zM_a5 hin_103 rfl ?_
                    refine zr_iadd C dX11_put_104 (q := 105) rfl ?_
                    refine zr_top h (fun v6_113 h => ?_)
                    refine zr_istore C dX11_put_105 (q := 107) (by decide) (lv' := [(6, .int v6_113), (0, .ref (zz_d Z 0)), (1, .int p1), (2, .int p2), (3, .int p3), (4, .int p4), (5, .int p5)]) rfl rfl ?_
                    refine zr_aload_n C dX11_put_107 (q := 108) rfl 1 rfl rfl ?_
                    refine zr_get C dX11_put_108 (q := 111) zM_gX11_7_0 rfl ?_
                    refine zr_iload C dX11_put_111 (q := 113) 0 rfl rfl ?_
                    refine zr_iload_n C dX11_put_113 (q := 114) rfl 3 rfl rfl ?_
                    obtain ⟨hin_114, h⟩ := zx_ck_so h
                    refine zr_iast C dX11_put_114 (q := 115) zM_a1 hin_114 rfl ?_
                    refine zr_ls h (fun s114 h => ?_)
                    refine zr_aload_n C dX11_put_115 (q := 116) rfl 1 rfl rfl ?_
                    refine zr_get C dX11_put_116 (q := 119) zM_gX11_13_0 rfl ?_
                    refine zr_iload C dX11_put_119 (q := 121) 0 rfl rfl ?_
                    refine zr_iload_n C dX11_put_121 (q := 122) rfl 4 rfl rfl ?_
                    obtain ⟨hin_122, h⟩ := zx_ck_so h
                    refine zr_iast C dX11_put_122 (q := 123) zM_a2 hin_122 rfl ?_
                    refine zr_ls h (fun s115 h => ?_)
                    refine zr_aload_n C dX11_put_123 (q := 124) rfl 1 rfl rfl ?_
                    refine zr_get C dX11_put_124 (q := 127) zM_gX11_16_0 rfl ?_
                    refine zr_iload C dX11_put_127 (q := 129) 0 rfl rfl ?_
                    refine zr_iload C dX11_put_129 (q := 131) 5 rfl rfl ?_
                    obtain ⟨hin_131, h⟩ := zx_ck_so h
                    refine zr_iast C dX11_put_131 (q := 132) zM_a3 hin_131 rfl ?_
                    refine zr_ls h (fun s116 h => ?_)
                    refine zr_aload_n C dX11_put_132 (q := 133) rfl 1 rfl rfl ?_
                    refine zr_get C dX11_put_133 (q := 136) zM_gX11_19_0 rfl ?_
                    refine zr_iload C dX11_put_136 (q := 138) 0 rfl rfl ?_
                    refine zr_iload C dX11_put_138 (q := 140) 6 rfl rfl ?_
                    obtain ⟨hin_140, h⟩ := zx_ck_so h
                    refine zr_iast C dX11_put_140 (q := 141) zM_a4 hin_140 rfl ?_
                    refine zr_ls h (fun s117 h => ?_)
                    refine zr_aload_n C dX11_put_141 (q := 142) rfl 1 rfl rfl ?_
                    refine zr_get C dX11_put_142 (q := 145) zM_gX11_22_0 rfl ?_
                    refine zr_iload_n C dX11_put_145 (q := 146) rfl 2 rfl rfl ?_
                    refine zr_dup2 C dX11_put_146 (q := 147) rfl rfl rfl ?_
                    obtain ⟨hin_147, h⟩ := zx_ck_so h
                    refine zr_iald C dX11_put_147 (q := 148) zM_a5 hin_147 rfl ?_
                    refine zr_iconst C dX11_put_148 (q := 149) (v := (1 : Int32)) (by decide) rfl ?_
                    refine zr_iadd C dX11_put_149 (q := 150) rfl ?_
                    refine zr_top h (fun x118 h => ?_)
                    obtain ⟨hin_150, h⟩ := zx_ck_so h
                    refine zr_iast C dX11_put_150 (q := 151) zM_a5 hin_150 rfl ?_
                    refine zr_ls h (fun s119 h => ?_)
                    refine zr_aload_n C dX11_put_151 (q := 152) rfl 1 rfl rfl ?_
                    refine zr_dup C dX11_put_152 (q := 153) rfl rfl ?_
                    refine zr_get C dX11_put_153 (q := 156) zM_gX11_131_0 rfl ?_
                    refine zr_iconst C dX11_put_156 (q := 157) (v := (1 : Int32)) (by decide) rfl ?_
                    refine zr_iadd C dX11_put_157 (q := 158) rfl ?_
                    refine zr_top h (fun x120 h => ?_)
                    refine zr_put C dX11_put_158 (q := 161) zM_pX11_131_0 rfl rfl rfl ?_
                    refine zr_ls h (fun s121 h => ?_)
                    refine zr_aload_n C dX11_put_161 (q := 162) rfl 1 rfl rfl ?_
                    refine zr_iconst C dX11_put_162 (q := 163) (v := (0 : Int32)) (by decide) rfl ?_
                    refine zr_put C dX11_put_163 (q := 166) zM_pX11_123_0 (by decide) (by decide) rfl ?_
                    refine zr_ls h (fun s122 h => ?_)
                    refine zr_aload_n C dX11_put_166 (q := 167) rfl 1 rfl rfl ?_
                    refine zr_get C dX11_put_167 (q := 170) zM_gX11_131_0 rfl ?_
                    exact zr_retI dX11_put_170 h hr
                  · skip
                    refine zr_iload C dX11_put_76 (q := 78) 4 rfl rfl ?_
                    obtain ⟨r101, hc_78, h⟩ := zx_b1_so h
                    refine zr_csI (q := 81) C (As := [.int p4]) (rest := []) dX11_put_78 (zM_ValueBenchModel_isVariable_met C.2.2.2.2.1 C.2.2.2.1 hc_78) zM_sX11_134 ⟨by decide, by decide⟩ rfl (Nat.le_of_ble_eq_true rfl) rfl rfl ?_
                    refine zr_if_eq (tgt := 92) (q := 84) C dX11_put_81 h (by decide) rfl (fun h => ?_) (fun h => ?_)
                    · skip
                      refine zr_iconst C dX11_put_92 (q := 93) (v := (-1 : Int32)) (by decide) rfl ?_
                      exact zr_retI dX11_put_93 h hr
                    · skip
                      refine zr_iload C dX11_put_84 (q := 86) 5 rfl rfl ?_
                      obtain ⟨r102, hc_86, h⟩ := zx_b1_so h
                      refine zr_csI (q := 89) C (As := [.int p5]) (rest := []) dX11_put_86 (zM_ValueBenchModel_isVariable_met C.2.2.2.2.1 C.2.2.2.1 hc_86) zM_sX11_134 ⟨by decide, by decide⟩ rfl (Nat.le_of_ble_eq_true rfl) rfl rfl ?_
                      refine zr_if_ne (tgt := 94) (q := 92) C dX11_put_89 h (by decide) rfl (fun h => ?_) (fun h => ?_)
                      · skip
                        refine zr_bipush C dX11_put_94 (q := 96) (v := (100 : Int32)) (by decide) rfl ?_
                        refine zr_iload_n C dX11_put_96 (q := 97) rfl 1 rfl rfl ?_
                        refine zr_imul C dX11_put_97 (q := 98) rfl ?_
                        refine zr_aload_n C dX11_put_98 (q := 99) rfl 0 rfl rfl ?_
                        refine zr_get C dX11_put_99 (q := 102) zM_gX11_22_0 rfl ?_
                        refine zr_iload_n C dX11_put_102 (q := 103) rfl 1 rfl rfl ?_
                        obtain ⟨hin_103, h⟩ := zx_ck_so h
                        refine zr_iald C dX11_put_103 (q := 104) zM_a5 hin_103 rfl ?_
                        refine zr_iadd C dX11_put_104 (q := 105) rfl ?_
                        refine zr_top h (fun v6_103 h => ?_)
                        refine zr_istore C dX11_put_105 (q := 107) (by decide) (lv' := [(6, .int v6_103), (0, .ref (zz_d Z 0)), (1, .int p1), (2, .int p2), (3, .int p3), (4, .int p4), (5, .int p5)]) rfl rfl ?_
                        refine zr_aload_n C dX11_put_107 (q := 108) rfl 1 rfl rfl ?_
                        refine zr_get C dX11_put_108 (q := 111) zM_gX11_7_0 rfl ?_
                        refine zr_iload C dX11_put_111 (q := 113) 0 rfl rfl ?_
                        refine zr_iload_n C dX11_put_113 (q := 114) rfl 3 rfl rfl ?_
                        obtain ⟨hin_114, h⟩ := zx_ck_so h
                        refine zr_iast C dX11_put_114 (q := 115) zM_a1 hin_114 rfl ?_
                        refine zr_ls h (fun s104 h => ?_)
                        refine zr_aload_n C dX11_put_115 (q := 116) rfl 1 rfl rfl ?_
                        refine zr_get C dX11_put_116 (q := 119) zM_gX11_13_0 rfl ?_
                        refine zr_iload C dX11_put_119 (q := 121) 0 rfl rfl ?_
                        refine zr_iload_n C dX11_put_121 (q := 122) rfl 4 rfl rfl ?_
                        obtain ⟨hin_122, h⟩ := zx_ck_so h
                        refine zr_iast C dX11_put_122 (q := 123) zM_a2 hin_122 rfl ?_
                        refine zr_ls h (fun s105 h => ?_)
                        refine zr_aload_n C dX11_put_123 (q := 124) rfl 1 rfl rfl ?_
                        refine zr_get C dX11_put_124 (q := 127) zM_gX11_16_0 rfl ?_
                        refine zr_iload C dX11_put_127 (q := 129) 0 rfl rfl ?_
                        refine zr_iload C dX11_put_129 (q := 131) 5 rfl rfl ?_
                        obtain ⟨hin_131, h⟩ := zx_ck_so h
                        refine zr_iast C dX11_put_131 (q := 132) zM_a3 hin_131 rfl ?_
                        refine zr_ls h (fun s106 h => ?_)
                        refine zr_aload_n C dX11_put_132 (q := 133) rfl 1 rfl rfl ?_
                        refine zr_get C dX11_put_133 (q := 136) zM_gX11_19_0 rfl ?_
                        refine zr_iload C dX11_put_136 (q := 138) 0 rfl rfl ?_
                        refine zr_iload C dX11_put_138 (q := 140) 6 rfl rfl ?_
                        obtain ⟨hin_140, h⟩ := zx_ck_so h
                        refine zr_iast C dX11_put_140 (q := 141) zM_a4 hin_140 rfl ?_
                        refine zr_ls h (fun s107 h => ?_)
                        refine zr_aload_n C dX11_put_141 (q := 142) rfl 1 rfl rfl ?_
                        refine zr_get C dX11_put_142 (q := 145) zM_gX11_22_0 rfl ?_
                        refine zr_iload_n C dX11_put_145 (q := 146) rfl 2 rfl rfl ?_
                        refine zr_dup2 C dX11_put_146 (q := 147) rfl rfl rfl ?_
                        obtain ⟨hin_147, h⟩ := zx_ck_so h
                        refine zr_iald C dX11_put_147 (q := 148) zM_a5 hin_147 rfl ?_
                        refine zr_iconst C dX11_put_148 (q := 149) (v := (1 : Int32)) (by decide) rfl ?_
                        refine zr_iadd C dX11_put_149 (q := 150) rfl ?_
                        refine zr_top h (fun x108 h => ?_)
                        obtain ⟨hin_150, h⟩ := zx_ck_so h
                        refine zr_iast C dX11_put_150 (q := 151) zM_a5 hin_150 rfl ?_
                        refine zr_ls h (fun s109 h => ?_)
                        refine zr_aload_n C dX11_put_151 (q := 152) rfl 1 rfl rfl ?_
                        refine zr_dup C dX11_put_152 (q := 153) rfl rfl ?_
                        refine zr_get C dX11_put_153 (q := 156) zM_gX11_131_0 rfl ?_
                        refine zr_iconst C dX11_put_156 (q := 157) (v := (1 : Int32)) (by decide) rfl ?_
                        refine zr_iadd C dX11_put_157 (q := 158) rfl ?_
                        refine zr_top h (fun x110 h => ?_)
                        refine zr_put C dX11_put_158 (q := 161) zM_pX11_131_0 rfl rfl rfl ?_
                        refine zr_ls h (fun s111 h => ?_)
                        refine zr_aload_n C dX11_put_161 (q := 162) rfl 1 rfl rfl ?_
                        refine zr_iconst C dX11_put_162 (q := 163) (v := (0 : Int32)) (by decide) rfl ?_
                        refine zr_put C dX11_put_163 (q := 166) zM_pX11_123_0 (by decide) (by decide) rfl ?_
                        refine zr_ls h (fun s112 h => ?_)
                        refine zr_aload_n C dX11_put_166 (q := 167) rfl 1 rfl rfl ?_
                        refine zr_get C dX11_put_167 (q := 170) zM_gX11_131_0 rfl ?_
                        exact zr_retI dX11_put_170 h hr
                      · skip
                        refine zr_iconst C dX11_put_92 (q := 93) (v := (-1 : Int32)) (by decide) rfl ?_
                        exact zr_retI dX11_put_93 h hr
              · skip
                refine zr_iload C dX11_put_57 (q := 59) 4 rfl rfl ?_
                obtain ⟨r68, hc_59, h⟩ := zx_b1_so h
                refine zr_csI (q := 62) C (As := [.int p4]) (rest := []) dX11_put_59 (zM_ValueBenchModel_isVariable_met C.2.2.2.2.1 C.2.2.2.1 hc_59) zM_sX11_134 ⟨by decide, by decide⟩ rfl (Nat.le_of_ble_eq_true rfl) rfl rfl ?_
                refine zr_if_eq (tgt := 92) (q := 65) C dX11_put_62 h (by decide) rfl (fun h => ?_) (fun h => ?_)
                · skip
                  refine zr_iconst C dX11_put_92 (q := 93) (v := (-1 : Int32)) (by decide) rfl ?_
                  exact zr_retI dX11_put_93 h hr
                · skip
                  refine zr_iload_n C dX11_put_65 (q := 66) rfl 2 rfl rfl ?_
                  refine zr_iconst C dX11_put_66 (q := 67) (v := (3 : Int32)) (by decide) rfl ?_
                  refine zr_icmp_lt (tgt := 94) (q := 70) C dX11_put_67 h (by decide) rfl (fun h => ?_) (fun h => ?_)
                  · skip
                    refine zr_bipush C dX11_put_94 (q := 96) (v := (100 : Int32)) (by decide) rfl ?_
                    refine zr_iload_n C dX11_put_96 (q := 97) rfl 1 rfl rfl ?_
                    refine zr_imul C dX11_put_97 (q := 98) rfl ?_
                    refine zr_aload_n C dX11_put_98 (q := 99) rfl 0 rfl rfl ?_
                    refine zr_get C dX11_put_99 (q := 102) zM_gX11_22_0 rfl ?_
                    refine zr_iload_n C dX11_put_102 (q := 103) rfl 1 rfl rfl ?_
                    obtain ⟨hin_103, h⟩ := zx_ck_so h
                    refine zr_iald C dX11_put_103 (q := 104) zM_a5 hin_103 rfl ?_
                    refine zr_iadd C dX11_put_104 (q := 105) rfl ?_
                    refine zr_top h (fun v6_91 h => ?_)
                    refine zr_istore C dX11_put_105 (q := 107) (by decide) (lv' := [(6, .int v6_91), (0, .ref (zz_d Z 0)), (1, .int p1), (2, .int p2), (3, .int p3), (4, .int p4), (5, .int p5)]) rfl rfl ?_
                    refine zr_aload_n C dX11_put_107 (q := 108) rfl 1 rfl rfl ?_
                    refine zr_get C dX11_put_108 (q := 111) zM_gX11_7_0 rfl ?_
                    refine zr_iload C dX11_put_111 (q := 113) 0 rfl rfl ?_
                    refine zr_iload_n C dX11_put_113 (q := 114) rfl 3 rfl rfl ?_
                    obtain ⟨hin_114, h⟩ := zx_ck_so h
                    refine zr_iast C dX11_put_114 (q := 115) zM_a1 hin_114 rfl ?_
                    refine zr_ls h (fun s92 h => ?_)
                    refine zr_aload_n C dX11_put_115 (q := 116) rfl 1 rfl rfl ?_
                    refine zr_get C dX11_put_116 (q := 119) zM_gX11_13_0 rfl ?_
                    refine zr_iload C dX11_put_119 (q := 121) 0 rfl rfl ?_
                    refine zr_iload_n C dX11_put_121 (q := 122) rfl 4 rfl rfl ?_
                    obtain ⟨hin_122, h⟩ := zx_ck_so h
                    refine zr_iast C dX11_put_122 (q := 123) zM_a2 hin_122 rfl ?_
                    refine zr_ls h (fun s93 h => ?_)
                    refine zr_aload_n C dX11_put_123 (q := 124) rfl 1 rfl rfl ?_
                    refine zr_get C dX11_put_124 (q := 127) zM_gX11_16_0 rfl ?_
                    refine zr_iload C dX11_put_127 (q := 129) 0 rfl rfl ?_
                    refine zr_iload C dX11_put_129 (q := 131) 5 rfl rfl ?_
                    obtain ⟨hin_131, h⟩ := zx_ck_so h
                    refine zr_iast C dX11_put_131 (q := 132) zM_a3 hin_131 rfl ?_
                    refine zr_ls h (fun s94 h => ?_)
                    refine zr_aload_n C dX11_put_132 (q := 133) rfl 1 rfl rfl ?_
                    refine zr_get C dX11_put_133 (q := 136) zM_gX11_19_0 rfl ?_
                    refine zr_iload C dX11_put_136 (q := 138) 0 rfl rfl ?_
                    refine zr_iload C dX11_put_138 (q := 140) 6 rfl rfl ?_
                    obtain ⟨hin_140, h⟩ := zx_ck_so h
                    refine zr_iast C dX11_put_140 (q := 141) zM_a4 hin_140 rfl ?_
                    refine zr_ls h (fun s95 h => ?_)
                    refine zr_aload_n C dX11_put_141 (q := 142) rfl 1 rfl rfl ?_
                    refine zr_get C dX11_put_142 (q := 145) zM_gX11_22_0 rfl ?_
                    refine zr_iload_n C dX11_put_145 (q := 146) rfl 2 rfl rfl ?_
                    refine zr_dup2 C dX11_put_146 (q := 147) rfl rfl rfl ?_
                    obtain ⟨hin_147, h⟩ := zx_ck_so h
                    refine zr_iald C dX11_put_147 (q := 148) zM_a5 hin_147 rfl ?_
                    refine zr_iconst C dX11_put_148 (q := 149) (v := (1 : Int32)) (by decide) rfl ?_
                    refine zr_iadd C dX11_put_149 (q := 150) rfl ?_
                    refine zr_top h (fun x96 h => ?_)
                    obtain ⟨hin_150, h⟩ := zx_ck_so h
                    refine zr_iast C dX11_put_150 (q := 151) zM_a5 hin_150 rfl ?_
                    refine zr_ls h (fun s97 h => ?_)
                    refine zr_aload_n C dX11_put_151 (q := 152) rfl 1 rfl rfl ?_
                    refine zr_dup C dX11_put_152 (q := 153) rfl rfl ?_
                    refine zr_get C dX11_put_153 (q := 156) zM_gX11_131_0 rfl ?_
                    refine zr_iconst C dX11_put_156 (q := 157) (v := (1 : Int32)) (by decide) rfl ?_
                    refine zr_iadd C dX11_put_157 (q := 158) rfl ?_
                    refine zr_top h (fun x98 h => ?_)
                    refine zr_put C dX11_put_158 (q := 161) zM_pX11_131_0 rfl rfl rfl ?_
                    refine zr_ls h (fun s99 h => ?_)
                    refine zr_aload_n C dX11_put_161 (q := 162) rfl 1 rfl rfl ?_
                    refine zr_iconst C dX11_put_162 (q := 163) (v := (0 : Int32)) (by decide) rfl ?_
                    refine zr_put C dX11_put_163 (q := 166) zM_pX11_123_0 (by decide) (by decide) rfl ?_
                    refine zr_ls h (fun s100 h => ?_)
                    refine zr_aload_n C dX11_put_166 (q := 167) rfl 1 rfl rfl ?_
                    refine zr_get C dX11_put_167 (q := 170) zM_gX11_131_0 rfl ?_
                    exact zr_retI dX11_put_170 h hr
                  · skip
                    refine zr_iload_n C dX11_put_70 (q := 71) rfl 2 rfl rfl ?_
                    refine zr_bipush C dX11_put_71 (q := 73) (v := (14 : Int32)) (by decide) rfl ?_
                    refine zr_icmp_ge (tgt := 94) (q := 76) C dX11_put_73 h (by decide) rfl (fun h => ?_) (fun h => ?_)
                    · skip
                      refine zr_bipush C dX11_put_94 (q := 96) (v := (100 : Int32)) (by decide) rfl ?_
                      refine zr_iload_n C dX11_put_96 (q := 97) rfl 1 rfl rfl ?_
                      refine zr_imul C dX11_put_97 (q := 98) rfl ?_
                      refine zr_aload_n C dX11_put_98 (q := 99) rfl 0 rfl rfl ?_
                      refine zr_get C dX11_put_99 (q := 102) zM_gX11_22_0 rfl ?_
                      refine zr_iload_n C dX11_put_102 (q := 103) rfl 1 rfl rfl ?_
                      obtain ⟨hin_103, h⟩ := zx_ck_so h
                      refine zr_iald C dX11_put_103 (q := 104) zM_a5 hin_103 rfl ?_
                      refine zr_iadd C dX11_put_104 (q := 105) rfl ?_
                      refine zr_top h (fun v6_81 h => ?_)
                      refine zr_istore C dX11_put_105 (q := 107) (by decide) (lv' := [(6, .int v6_81), (0, .ref (zz_d Z 0)), (1, .int p1), (2, .int p2), (3, .int p3), (4, .int p4), (5, .int p5)]) rfl rfl ?_
                      refine zr_aload_n C dX11_put_107 (q := 108) rfl 1 rfl rfl ?_
                      refine zr_get C dX11_put_108 (q := 111) zM_gX11_7_0 rfl ?_
                      refine zr_iload C dX11_put_111 (q := 113) 0 rfl rfl ?_
                      refine zr_iload_n C dX11_put_113 (q := 114) rfl 3 rfl rfl ?_
                      obtain ⟨hin_114, h⟩ := zx_ck_so h
                      refine zr_iast C dX11_put_114 (q := 115) zM_a1 hin_114 rfl ?_
                      refine zr_ls h (fun s82 h => ?_)
                      refine zr_aload_n C dX11_put_115 (q := 116) rfl 1 rfl rfl ?_
                      refine zr_get C dX11_put_116 (q := 119) zM_gX11_13_0 rfl ?_
                      refine zr_iload C dX11_put_119 (q := 121) 0 rfl rfl ?_
                      refine zr_iload_n C dX11_put_121 (q := 122) rfl 4 rfl rfl ?_
                      obtain ⟨hin_122, h⟩ := zx_ck_so h
                      refine zr_iast C dX11_put_122 (q := 123) zM_a2 hin_122 rfl ?_
                      refine zr_ls h (fun s83 h => ?_)
                      refine zr_aload_n C dX11_put_123 (q := 124) rfl 1 rfl rfl ?_
                      refine zr_get C dX11_put_124 (q := 127) zM_gX11_16_0 rfl ?_
                      refine zr_iload C dX11_put_127 (q := 129) 0 rfl rfl ?_
                      refine zr_iload C dX11_put_129 (q := 131) 5 rfl rfl ?_
                      obtain ⟨hin_131, h⟩ := zx_ck_so h
                      refine zr_iast C dX11_put_131 (q := 132) zM_a3 hin_131 rfl ?_
                      refine zr_ls h (fun s84 h => ?_)
                      refine zr_aload_n C dX11_put_132 (q := 133) rfl 1 rfl rfl ?_
                      refine zr_get C dX11_put_133 (q := 136) zM_gX11_19_0 rfl ?_
                      refine zr_iload C dX11_put_136 (q := 138) 0 rfl rfl ?_
                      refine zr_iload C dX11_put_138 (q := 140) 6 rfl rfl ?_
                      obtain ⟨hin_140, h⟩ := zx_ck_so h
                      refine zr_iast C dX11_put_140 (q := 141) zM_a4 hin_140 rfl ?_
                      refine zr_ls h (fun s85 h => ?_)
                      refine zr_aload_n C dX11_put_141 (q := 142) rfl 1 rfl rfl ?_
                      refine zr_get C dX11_put_142 (q := 145) zM_gX11_22_0 rfl ?_
                      refine zr_iload_n C dX11_put_145 (q := 146) rfl 2 rfl rfl ?_
                      refine zr_dup2 C dX11_put_146 (q := 147) rfl rfl rfl ?_
                      obtain ⟨hin_147, h⟩ := zx_ck_so h
                      refine zr_iald C dX11_put_147 (q := 148) zM_a5 hin_147 rfl ?_
                      refine zr_iconst C dX11_put_148 (q := 149) (v := (1 : Int32)) (by decide) rfl ?_
                      refine zr_iadd C dX11_put_149 (q := 150) rfl ?_
                      refine zr_top h (fun x86 h => ?_)
                      obtain ⟨hin_150, h⟩ := zx_ck_so h
                      refine zr_iast C dX11_put_150 (q := 151) zM_a5 hin_150 rfl ?_
                      refine zr_ls h (fun s87 h => ?_)
                      refine zr_aload_n C dX11_put_151 (q := 152) rfl 1 rfl rfl ?_
                      refine zr_dup C dX11_put_152 (q := 153) rfl rfl ?_
                      refine zr_get C dX11_put_153 (q := 156) zM_gX11_131_0 rfl ?_
                      refine zr_iconst C dX11_put_156 (q := 157) (v := (1 : Int32)) (by decide) rfl ?_
                      refine zr_iadd C dX11_put_157 (q := 158) rfl ?_
                      refine zr_top h (fun x88 h => ?_)
                      refine zr_put C dX11_put_158 (q := 161) zM_pX11_131_0 rfl rfl rfl ?_
                      refine zr_ls h (fun s89 h => ?_)
                      refine zr_aload_n C dX11_put_161 (q := 162) rfl 1 rfl rfl ?_
                      refine zr_iconst C dX11_put_162 (q := 163) (v := (0 : Int32)) (by decide) rfl ?_
                      refine zr_put C dX11_put_163 (q := 166) zM_pX11_123_0 (by decide) (by decide) rfl ?_
                      refine zr_ls h (fun s90 h => ?_)
                      refine zr_aload_n C dX11_put_166 (q := 167) rfl 1 rfl rfl ?_
                      refine zr_get C dX11_put_167 (q := 170) zM_gX11_131_0 rfl ?_
                      exact zr_retI dX11_put_170 h hr
                    · skip
                      refine zr_iload C dX11_put_76 (q := 78) 4 rfl rfl ?_
                      obtain ⟨r69, hc_78, h⟩ := zx_b1_so h
                      refine zr_csI (q := 81) C (As := [.int p4]) (rest := []) dX11_put_78 (zM_ValueBenchModel_isVariable_met C.2.2.2.2.1 C.2.2.2.1 hc_78) zM_sX11_134 ⟨by decide, by decide⟩ rfl (Nat.le_of_ble_eq_true rfl) rfl rfl ?_
                      refine zr_if_eq (tgt := 92) (q := 84) C dX11_put_81 h (by decide) rfl (fun h => ?_) (fun h => ?_)
                      · skip
                        refine zr_iconst C dX11_put_92 (q := 93) (v := (-1 : Int32)) (by decide) rfl ?_
                        exact zr_retI dX11_put_93 h hr
                      · skip
                        refine zr_iload C dX11_put_84 (q := 86) 5 rfl rfl ?_
                        obtain ⟨r70, hc_86, h⟩ := zx_b1_so h
                        refine zr_csI (q := 89) C (As := [.int p5]) (rest := []) dX11_put_86 (zM_ValueBenchModel_isVariable_met C.2.2.2.2.1 C.2.2.2.1 hc_86) zM_sX11_134 ⟨by decide, by decide⟩ rfl (Nat.le_of_ble_eq_true rfl) rfl rfl ?_
                        refine zr_if_ne (tgt := 94) (q := 92) C dX11_put_89 h (by decide) rfl (fun h => ?_) (fun h => ?_)
                        · skip
                          refine zr_bipush C dX11_put_94 (q := 96) (v := (100 : Int32)) (by decide) rfl ?_
                          refine zr_iload_n C dX11_put_96 (q := 97) rfl 1 rfl rfl ?_
                          refine zr_imul C dX11_put_97 (q := 98) rfl ?_
                          refine zr_aload_n C dX11_put_98 (q := 99) rfl 0 rfl rfl ?_
                          refine zr_get C dX11_put_99 (q := 102) zM_gX11_22_0 rfl ?_
                          refine zr_iload_n C dX11_put_102 (q := 103) rfl 1 rfl rfl ?_
                          obtain ⟨hin_103, h⟩ := zx_ck_so h
                          refine zr_iald C dX11_put_103 (q := 104) zM_a5 hin_103 rfl ?_
                          refine zr_iadd C dX11_put_104 (q := 105) rfl ?_
                          refine zr_top h (fun v6_71 h => ?_)
                          refine zr_istore C dX11_put_105 (q := 107) (by decide) (lv' := [(6, .int v6_71), (0, .ref (zz_d Z 0)), (1, .int p1), (2, .int p2), (3, .int p3), (4, .int p4), (5, .int p5)]) rfl rfl ?_
                          refine zr_aload_n C dX11_put_107 (q := 108) rfl 1 rfl rfl ?_
                          refine zr_get C dX11_put_108 (q := 111) zM_gX11_7_0 rfl ?_
                          refine zr_iload C dX11_put_111 (q := 113) 0 rfl rfl ?_
                          refine zr_iload_n C dX11_put_113 (q := 114) rfl 3 rfl rfl ?_
                          obtain ⟨hin_114, h⟩ := zx_ck_so h
                          refine zr_iast C dX11_put_114 (q := 115) zM_a1 hin_114 rfl ?_
                          refine zr_ls h (fun s72 h => ?_)
                          refine zr_aload_n C dX11_put_115 (q := 116) rfl 1 rfl rfl ?_
                          refine zr_get C dX11_put_116 (q := 119) zM_gX11_13_0 rfl ?_
                          refine zr_iload C dX11_put_119 (q := 121) 0 rfl rfl ?_
                          refine zr_iload_n C dX11_put_121 (q := 122) rfl 4 rfl rfl ?_
                          obtain ⟨hin_122, h⟩ := zx_ck_so h
                          refine zr_iast C dX11_put_122 (q := 123) zM_a2 hin_122 rfl ?_
                          refine zr_ls h (fun s73 h => ?_)
                          refine zr_aload_n C dX11_put_123 (q := 124) rfl 1 rfl rfl ?_
                          refine zr_get C dX11_put_124 (q := 127) zM_gX11_16_0 rfl ?_
                          refine zr_iload C dX11_put_127 (q := 129) 0 rfl rfl ?_
                          refine zr_iload C dX11_put_129 (q := 131) 5 rfl rfl ?_
                          obtain ⟨hin_131, h⟩ := zx_ck_so h
                          refine zr_iast C dX11_put_131 (q := 132) zM_a3 hin_131 rfl ?_
                          refine zr_ls h (fun s74 h => ?_)
                          refine zr_aload_n C dX11_put_132 (q := 133) rfl 1 rfl rfl ?_
                          refine zr_get C dX11_put_133 (q := 136) zM_gX11_19_0 rfl ?_
                          refine zr_iload C dX11_put_136 (q := 138) 0 rfl rfl ?_
                          refine zr_iload C dX11_put_138 (q := 140) 6 rfl rfl ?_
                          obtain ⟨hin_140, h⟩ := zx_ck_so h
                          refine zr_iast C dX11_put_140 (q := 141) zM_a4 hin_140 rfl ?_
                          refine zr_ls h (fun s75 h => ?_)
                          refine zr_aload_n C dX11_put_141 (q := 142) rfl 1 rfl rfl ?_
                          refine zr_get C dX11_put_142 (q := 145) zM_gX11_22_0 rfl ?_
                          refine zr_iload_n C dX11_put_145 (q := 146) rfl 2 rfl rfl ?_
                          refine zr_dup2 C dX11_put_146 (q := 147) rfl rfl rfl ?_
                          obtain ⟨hin_147, h⟩ := zx_ck_so h
                          refine zr_iald C dX11_put_147 (q := 148) zM_a5 hin_147 rfl ?_
                          refine zr_iconst C dX11_put_148 (q := 149) (v := (1 : Int32)) (by decide) rfl ?_
                          refine zr_iadd C dX11_put_149 (q := 150) rfl ?_
                          refine zr_top h (fun x76 h => ?_)
                          obtain ⟨hin_150, h⟩ := zx_ck_so h
                          refine zr_iast C dX11_put_150 (q := 151) zM_a5 hin_150 rfl ?_
                          refine zr_ls h (fun s77 h => ?_)
                          refine zr_aload_n C dX11_put_151 (q := 152) rfl 1 rfl rfl ?_
                          refine zr_dup C dX11_put_152 (q := 153) rfl rfl ?_
                          refine zr_get C dX11_put_153 (q := 156) zM_gX11_131_0 rfl ?_
                          refine zr_iconst C dX11_put_156 (q := 157) (v := (1 : Int32)) (by decide) rfl ?_
                          refine zr_iadd C dX11_put_157 (q := 158) rfl ?_
                          refine zr_top h (fun x78 h => ?_)
                          refine zr_put C dX11_put_158 (q := 161) zM_pX11_131_0 rfl rfl rfl ?_
                          refine zr_ls h (fun s79 h => ?_)
                          refine zr_aload_n C dX11_put_161 (q := 162) rfl 1 rfl rfl ?_
                          refine zr_iconst C dX11_put_162 (q := 163) (v := (0 : Int32)) (by decide) rfl ?_
                          refine zr_put C dX11_put_163 (q := 166) zM_pX11_123_0 (by decide) (by decide) rfl ?_
                          refine zr_ls h (fun s80 h => ?_)
                          refine zr_aload_n C dX11_put_166 (q := 167) rfl 1 rfl rfl ?_
                          refine zr_get C dX11_put_167 (q := 170) zM_gX11_131_0 rfl ?_
                          exact zr_retI dX11_put_170 h hr
                        · skip
                          refine zr_iconst C dX11_put_92 (q := 93) (v := (-1 : Int32)) (by decide) rfl ?_
                          exact zr_retI dX11_put_93 h hr
            · skip
              refine zr_iload C dX11_put_41 (q := 43) 4 rfl rfl ?_
              refine zr_if_lt (tgt := 92) (q := 46) C dX11_put_43 h (by decide) rfl (fun h => ?_) (fun h => ?_)
              · skip
                refine zr_iconst C dX11_put_92 (q := 93) (v := (-1 : Int32)) (by decide) rfl ?_
                exact zr_retI dX11_put_93 h hr
              · skip
                refine zr_iload C dX11_put_46 (q := 48) 4 rfl rfl ?_
                refine zr_iconst C dX11_put_48 (q := 49) (v := (3 : Int32)) (by decide) rfl ?_
                refine zr_icmp_gt (tgt := 92) (q := 52) C dX11_put_49 h (by decide) rfl (fun h => ?_) (fun h => ?_)
                · skip
                  refine zr_iconst C dX11_put_92 (q := 93) (v := (-1 : Int32)) (by decide) rfl ?_
                  exact zr_retI dX11_put_93 h hr
                · skip
                  refine zr_iload_n C dX11_put_52 (q := 53) rfl 2 rfl rfl ?_
                  refine zr_iconst C dX11_put_53 (q := 54) (v := (2 : Int32)) (by decide) rfl ?_
                  refine zr_icmp_ne (tgt := 65) (q := 57) C dX11_put_54 h (by decide) rfl (fun h => ?_) (fun h => ?_)
                  · skip
                    refine zr_iload_n C dX11_put_65 (q := 66) rfl 2 rfl rfl ?_
                    refine zr_iconst C dX11_put_66 (q := 67) (v := (3 : Int32)) (by decide) rfl ?_
                    refine zr_icmp_lt (tgt := 94) (q := 70) C dX11_put_67 h (by decide) rfl (fun h => ?_) (fun h => ?_)
                    · skip
                      refine zr_bipush C dX11_put_94 (q := 96) (v := (100 : Int32)) (by decide) rfl ?_
                      refine zr_iload_n C dX11_put_96 (q := 97) rfl 1 rfl rfl ?_
                      refine zr_imul C dX11_put_97 (q := 98) rfl ?_
                      refine zr_aload_n C dX11_put_98 (q := 99) rfl 0 rfl rfl ?_
                      refine zr_get C dX11_put_99 (q := 102) zM_gX11_22_0 rfl ?_
                      refine zr_iload_n C dX11_put_102 (q := 103) rfl 1 rfl rfl ?_
                      obtain ⟨hin_103, h⟩ := zx_ck_so h
                      refine zr_iald C dX11_put_103 (q := 104) zM_a5 hin_103 rfl ?_
                      refine zr_iadd C dX11_put_104 (q := 105) rfl ?_
                      refine zr_top h (fun v6_58 h => ?_)
                      refine zr_istore C dX11_put_105 (q := 107) (by decide) (lv' := [(6, .int v6_58), (0, .ref (zz_d Z 0)), (1, .int p1), (2, .int p2), (3, .int p3), (4, .int p4), (5, .int p5)]) rfl rfl ?_
                      refine zr_aload_n C dX11_put_107 (q := 108) rfl 1 rfl rfl ?_
                      refine zr_get C dX11_put_108 (q := 111) zM_gX11_7_0 rfl ?_
                      refine zr_iload C dX11_put_111 (q := 113) 0 rfl rfl ?_
                      refine zr_iload_n C dX11_put_113 (q := 114) rfl 3 rfl rfl ?_
                      obtain ⟨hin_114, h⟩ := zx_ck_so h
                      refine zr_iast C dX11_put_114 (q := 115) zM_a1 hin_114 rfl ?_
                      refine zr_ls h (fun s59 h => ?_)
                      refine zr_aload_n C dX11_put_115 (q := 116) rfl 1 rfl rfl ?_
                      refine zr_get C dX11_put_116 (q := 119) zM_gX11_13_0 rfl ?_
                      refine zr_iload C dX11_put_119 (q := 121) 0 rfl rfl ?_
                      refine zr_iload_n C dX11_put_121 (q := 122) rfl 4 rfl rfl ?_
                      obtain ⟨hin_122, h⟩ := zx_ck_so h
                      refine zr_iast C dX11_put_122 (q := 123) zM_a2 hin_122 rfl ?_
                      refine zr_ls h (fun s60 h => ?_)
                      refine zr_aload_n C dX11_put_123 (q := 124) rfl 1 rfl rfl ?_
                      refine zr_get C dX11_put_124 (q := 127) zM_gX11_16_0 rfl ?_
                      refine zr_iload C dX11_put_127 (q := 129) 0 rfl rfl ?_
                      refine zr_iload C dX11_put_129 (q := 131) 5 rfl rfl ?_
                      obtain ⟨hin_131, h⟩ := zx_ck_so h
                      refine zr_iast C dX11_put_131 (q := 132) zM_a3 hin_131 rfl ?_
                      refine zr_ls h (fun s61 h => ?_)
                      refine zr_aload_n C dX11_put_132 (q := 133) rfl 1 rfl rfl ?_
                      refine zr_get C dX11_put_133 (q := 136) zM_gX11_19_0 rfl ?_
                      refine zr_iload C dX11_put_136 (q := 138) 0 rfl rfl ?_
                      refine zr_iload C dX11_put_138 (q := 140) 6 rfl rfl ?_
                      obtain ⟨hin_140, h⟩ := zx_ck_so h
                      refine zr_iast C dX11_put_140 (q := 141) zM_a4 hin_140 rfl ?_
                      refine zr_ls h (fun s62 h => ?_)
                      refine zr_aload_n C dX11_put_141 (q := 142) rfl 1 rfl rfl ?_
                      refine zr_get C dX11_put_142 (q := 145) zM_gX11_22_0 rfl ?_
                      refine zr_iload_n C dX11_put_145 (q := 146) rfl 2 rfl rfl ?_
                      refine zr_dup2 C dX11_put_146 (q := 147) rfl rfl rfl ?_
                      obtain ⟨hin_147, h⟩ := zx_ck_so h
                      refine zr_iald C dX11_put_147 (q := 148) zM_a5 hin_147 rfl ?_
                      refine zr_iconst C dX11_put_148 (q := 149) (v := (1 : Int32)) (by decide) rfl ?_
                      refine zr_iadd C dX11_put_149 (q := 150) rfl ?_
                      refine zr_top h (fun x63 h => ?_)
                      obtain ⟨hin_150, h⟩ := zx_ck_so h
                      refine zr_iast C dX11_put_150 (q := 151) zM_a5 hin_150 rfl ?_
                      refine zr_ls h (fun s64 h => ?_)
                      refine zr_aload_n C dX11_put_151 (q := 152) rfl 1 rfl rfl ?_
                      refine zr_dup C dX11_put_152 (q := 153) rfl rfl ?_
                      refine zr_get C dX11_put_153 (q := 156) zM_gX11_131_0 rfl ?_
                      refine zr_iconst C dX11_put_156 (q := 157) (v := (1 : Int32)) (by decide) rfl ?_
                      refine zr_iadd C dX11_put_157 (q := 158) rfl ?_
                      refine zr_top h (fun x65 h => ?_)
                      refine zr_put C dX11_put_158 (q := 161) zM_pX11_131_0 rfl rfl rfl ?_
                      refine zr_ls h (fun s66 h => ?_)
                      refine zr_aload_n C dX11_put_161 (q := 162) rfl 1 rfl rfl ?_
                      refine zr_iconst C dX11_put_162 (q := 163) (v := (0 : Int32)) (by decide) rfl ?_
                      refine zr_put C dX11_put_163 (q := 166) zM_pX11_123_0 (by decide) (by decide) rfl ?_
                      refine zr_ls h (fun s67 h => ?_)
                      refine zr_aload_n C dX11_put_166 (q := 167) rfl 1 rfl rfl ?_
                      refine zr_get C dX11_put_167 (q := 170) zM_gX11_131_0 rfl ?_
                      exact zr_retI dX11_put_170 h hr
                    · skip
                      refine zr_iload_n C dX11_put_70 (q := 71) rfl 2 rfl rfl ?_
                      refine zr_bipush C dX11_put_71 (q := 73) (v := (14 : Int32)) (by decide) rfl ?_
                      refine zr_icmp_ge (tgt := 94) (q := 76) C dX11_put_73 h (by decide) rfl (fun h => ?_) (fun h => ?_)
                      · skip
                        refine zr_bipush C dX11_put_94 (q := 96) (v := (100 : Int32)) (by decide) rfl ?_
                        refine zr_iload_n C dX11_put_96 (q := 97) rfl 1 rfl rfl ?_
                        refine zr_imul C dX11_put_97 (q := 98) rfl ?_
                        refine zr_aload_n C dX11_put_98 (q := 99) rfl 0 rfl rfl ?_
                        refine zr_get C dX11_put_99 (q := 102) zM_gX11_22_0 rfl ?_
                        refine zr_iload_n C dX11_put_102 (q := 103) rfl 1 rfl rfl ?_
                        obtain ⟨hin_103, h⟩ := zx_ck_so h
                        refine zr_iald C dX11_put_103 (q := 104) zM_a5 hin_103 rfl ?_
                        refine zr_iadd C dX11_put_104 (q := 105) rfl ?_
                        refine zr_top h (fun v6_48 h => ?_)
                        refine zr_istore C dX11_put_105 (q := 107) (by decide) (lv' := [(6, .int v6_48), (0, .ref (zz_d Z 0)), (1, .int p1), (2, .int p2), (3, .int p3), (4, .int p4), (5, .int p5)]) rfl rfl ?_
                        refine zr_aload_n C dX11_put_107 (q := 108) rfl 1 rfl rfl ?_
                        refine zr_get C dX11_put_108 (q := 111) zM_gX11_7_0 rfl ?_
                        refine zr_iload C dX11_put_111 (q := 113) 0 rfl rfl ?_
                        refine zr_iload_n C dX11_put_113 (q := 114) rfl 3 rfl rfl ?_
                        obtain ⟨hin_114, h⟩ := zx_ck_so h
                        refine zr_iast C dX11_put_114 (q := 115) zM_a1 hin_114 rfl ?_
                        refine zr_ls h (fun s49 h => ?_)
                        refine zr_aload_n C dX11_put_115 (q := 116) rfl 1 rfl rfl ?_
                        refine zr_get C dX11_put_116 (q := 119) zM_gX11_13_0 rfl ?_
                        refine zr_iload C dX11_put_119 (q := 121) 0 rfl rfl ?_
                        refine zr_iload_n C dX11_put_121 (q := 122) rfl 4 rfl rfl ?_
                        obtain ⟨hin_122, h⟩ := zx_ck_so h
                        refine zr_iast C dX11_put_122 (q := 123) zM_a2 hin_122 rfl ?_
                        refine zr_ls h (fun s50 h => ?_)
                        refine zr_aload_n C dX11_put_123 (q := 124) rfl 1 rfl rfl ?_
                        refine zr_get C dX11_put_124 (q := 127) zM_gX11_16_0 rfl ?_
                        refine zr_iload C dX11_put_127 (q := 129) 0 rfl rfl ?_
                        refine zr_iload C dX11_put_129 (q := 131) 5 rfl rfl ?_
                        obtain ⟨hin_131, h⟩ := zx_ck_so h
                        refine zr_iast C dX11_put_131 (q := 132) zM_a3 hin_131 rfl ?_
                        refine zr_ls h (fun s51 h => ?_)
                        refine zr_aload_n C dX11_put_132 (q := 133) rfl 1 rfl rfl ?_
                        refine zr_get C dX11_put_133 (q := 136) zM_gX11_19_0 rfl ?_
                        refine zr_iload C dX11_put_136 (q := 138) 0 rfl rfl ?_
                        refine zr_iload C dX11_put_138 (q := 140) 6 rfl rfl ?_
                        obtain ⟨hin_140, h⟩ := zx_ck_so h
                        refine zr_iast C dX11_put_140 (q := 141) zM_a4 hin_140 rfl ?_
                        refine zr_ls h (fun s52 h => ?_)
                        refine zr_aload_n C dX11_put_141 (q := 142) rfl 1 rfl rfl ?_
                        refine zr_get C dX11_put_142 (q := 145) zM_gX11_22_0 rfl ?_
                        refine zr_iload_n C dX11_put_145 (q := 146) rfl 2 rfl rfl ?_
                        refine zr_dup2 C dX11_put_146 (q := 147) rfl rfl rfl ?_
                        obtain ⟨hin_147, h⟩ := zx_ck_so h
                        refine zr_iald C dX11_put_147 (q := 148) zM_a5 hin_147 rfl ?_
                        refine zr_iconst C dX11_put_148 (q := 149) (v := (1 : Int32)) (by decide) rfl ?_
                        refine zr_iadd C dX11_put_149 (q := 150) rfl ?_
                        refine zr_top h (fun x53 h => ?_)
                        obtain ⟨hin_150, h⟩ := zx_ck_so h
                        refine zr_iast C dX11_put_150 (q := 151) zM_a5 hin_150 rfl ?_
                        refine zr_ls h (fun s54 h => ?_)
                        refine zr_aload_n C dX11_put_151 (q := 152) rfl 1 rfl rfl ?_
                        refine zr_dup C dX11_put_152 (q := 153) rfl rfl ?_
                        refine zr_get C dX11_put_153 (q := 156) zM_gX11_131_0 rfl ?_
                        refine zr_iconst C dX11_put_156 (q := 157) (v := (1 : Int32)) (by decide) rfl ?_
                        refine zr_iadd C dX11_put_157 (q := 158) rfl ?_
                        refine zr_top h (fun x55 h => ?_)
                        refine zr_put C dX11_put_158 (q := 161) zM_pX11_131_0 rfl rfl rfl ?_
                        refine zr_ls h (fun s56 h => ?_)
                        refine zr_aload_n C dX11_put_161 (q := 162) rfl 1 rfl rfl ?_
                        refine zr_iconst C dX11_put_162 (q := 163) (v := (0 : Int32)) (by decide) rfl ?_
                        refine zr_put C dX11_put_163 (q := 166) zM_pX11_123_0 (by decide) (by decide) rfl ?_
                        refine zr_ls h (fun s57 h => ?_)
                        refine zr_aload_n C dX11_put_166 (q := 167) rfl 1 rfl rfl ?_
                        refine zr_get C dX11_put_167 (q := 170) zM_gX11_131_0 rfl ?_
                        exact zr_retI dX11_put_170 h hr
                      · skip
                        refine zr_iload C dX11_put_76 (q := 78) 4 rfl rfl ?_
                        obtain ⟨r36, hc_78, h⟩ := zx_b1_so h
                        refine zr_csI (q := 81) C (As := [.int p4]) (rest := []) dX11_put_78 (zM_ValueBenchModel_isVariable_met C.2.2.2.2.1 C.2.2.2.1 hc_78) zM_sX11_134 ⟨by decide, by decide⟩ rfl (Nat.le_of_ble_eq_true rfl) rfl rfl ?_
                        refine zr_if_eq (tgt := 92) (q := 84) C dX11_put_81 h (by decide) rfl (fun h => ?_) (fun h => ?_)
                        · skip
                          refine zr_iconst C dX11_put_92 (q := 93) (v := (-1 : Int32)) (by decide) rfl ?_
                          exact zr_retI dX11_put_93 h hr
                        · skip
                          refine zr_iload C dX11_put_84 (q := 86) 5 rfl rfl ?_
                          obtain ⟨r37, hc_86, h⟩ := zx_b1_so h
                          refine zr_csI (q := 89) C (As := [.int p5]) (rest := []) dX11_put_86 (zM_ValueBenchModel_isVariable_met C.2.2.2.2.1 C.2.2.2.1 hc_86) zM_sX11_134 ⟨by decide, by decide⟩ rfl (Nat.le_of_ble_eq_true rfl) rfl rfl ?_
                          refine zr_if_ne (tgt := 94) (q := 92) C dX11_put_89 h (by decide) rfl (fun h => ?_) (fun h => ?_)
                          · skip
                            refine zr_bipush C dX11_put_94 (q := 96) (v := (100 : Int32)) (by decide) rfl ?_
                            refine zr_iload_n C dX11_put_96 (q := 97) rfl 1 rfl rfl ?_
                            refine zr_imul C dX11_put_97 (q := 98) rfl ?_
                            refine zr_aload_n C dX11_put_98 (q := 99) rfl 0 rfl rfl ?_
                            refine zr_get C dX11_put_99 (q := 102) zM_gX11_22_0 rfl ?_
                            refine zr_iload_n C dX11_put_102 (q := 103) rfl 1 rfl rfl ?_
                            obtain ⟨hin_103, h⟩ := zx_ck_so h
                            refine zr_iald C dX11_put_103 (q := 104) zM_a5 hin_103 rfl ?_
                            refine zr_iadd C dX11_put_104 (q := 105) rfl ?_
                            refine zr_top h (fun v6_38 h => ?_)
                            refine zr_istore C dX11_put_105 (q := 107) (by decide) (lv' := [(6, .int v6_38), (0, .ref (zz_d Z 0)), (1, .int p1), (2, .int p2), (3, .int p3), (4, .int p4), (5, .int p5)]) rfl rfl ?_
                            refine zr_aload_n C dX11_put_107 (q := 108) rfl 1 rfl rfl ?_
                            refine zr_get C dX11_put_108 (q := 111) zM_gX11_7_0 rfl ?_
                            refine zr_iload C dX11_put_111 (q := 113) 0 rfl rfl ?_
                            refine zr_iload_n C dX11_put_113 (q := 114) rfl 3 rfl rfl ?_
                            obtain ⟨hin_114, h⟩ := zx_ck_so h
                            refine zr_iast C dX11_put_114 (q := 115) zM_a1 hin_114 rfl ?_
                            refine zr_ls h (fun s39 h => ?_)
                            refine zr_aload_n C dX11_put_115 (q := 116) rfl 1 rfl rfl ?_
                            refine zr_get C dX11_put_116 (q := 119) zM_gX11_13_0 rfl ?_
                            refine zr_iload C dX11_put_119 (q := 121) 0 rfl rfl ?_
                            refine zr_iload_n C dX11_put_121 (q := 122) rfl 4 rfl rfl ?_
                            obtain ⟨hin_122, h⟩ := zx_ck_so h
                            refine zr_iast C dX11_put_122 (q := 123) zM_a2 hin_122 rfl ?_
                            refine zr_ls h (fun s40 h => ?_)
                            refine zr_aload_n C dX11_put_123 (q := 124) rfl 1 rfl rfl ?_
                            refine zr_get C dX11_put_124 (q := 127) zM_gX11_16_0 rfl ?_
                            refine zr_iload C dX11_put_127 (q := 129) 0 rfl rfl ?_
                            refine zr_iload C dX11_put_129 (q := 131) 5 rfl rfl ?_
                            obtain ⟨hin_131, h⟩ := zx_ck_so h
                            refine zr_iast C dX11_put_131 (q := 132) zM_a3 hin_131 rfl ?_
                            refine zr_ls h (fun s41 h => ?_)
                            refine zr_aload_n C dX11_put_132 (q := 133) rfl 1 rfl rfl ?_
                            refine zr_get C dX11_put_133 (q := 136) zM_gX11_19_0 rfl ?_
                            refine zr_iload C dX11_put_136 (q := 138) 0 rfl rfl ?_
                            refine zr_iload C dX11_put_138 (q := 140) 6 rfl rfl ?_
                            obtain ⟨hin_140, h⟩ := zx_ck_so h
                            refine zr_iast C dX11_put_140 (q := 141) zM_a4 hin_140 rfl ?_
                            refine zr_ls h (fun s42 h => ?_)
                            refine zr_aload_n C dX11_put_141 (q := 142) rfl 1 rfl rfl ?_
                            refine zr_get C dX11_put_142 (q := 145) zM_gX11_22_0 rfl ?_
                            refine zr_iload_n C dX11_put_145 (q := 146) rfl 2 rfl rfl ?_
                            refine zr_dup2 C dX11_put_146 (q := 147) rfl rfl rfl ?_
                            obtain ⟨hin_147, h⟩ := zx_ck_so h
                            refine zr_iald C dX11_put_147 (q := 148) zM_a5 hin_147 rfl ?_
                            refine zr_iconst C dX11_put_148 (q := 149) (v := (1 : Int32)) (by decide) rfl ?_
                            refine zr_iadd C dX11_put_149 (q := 150) rfl ?_
                            refine zr_top h (fun x43 h => ?_)
                            obtain ⟨hin_150, h⟩ := zx_ck_so h
                            refine zr_iast C dX11_put_150 (q := 151) zM_a5 hin_150 rfl ?_
                            refine zr_ls h (fun s44 h => ?_)
                            refine zr_aload_n C dX11_put_151 (q := 152) rfl 1 rfl rfl ?_
                            refine zr_dup C dX11_put_152 (q := 153) rfl rfl ?_
                            refine zr_get C dX11_put_153 (q := 156) zM_gX11_131_0 rfl ?_
                            refine zr_iconst C dX11_put_156 (q := 157) (v := (1 : Int32)) (by decide) rfl ?_
                            refine zr_iadd C dX11_put_157 (q := 158) rfl ?_
                            refine zr_top h (fun x45 h => ?_)
                            refine zr_put C dX11_put_158 (q := 161) zM_pX11_131_0 rfl rfl rfl ?_
                            refine zr_ls h (fun s46 h => ?_)
                            refine zr_aload_n C dX11_put_161 (q := 162) rfl 1 rfl rfl ?_
                            refine zr_iconst C dX11_put_162 (q := 163) (v := (0 : Int32)) (by decide) rfl ?_
                            refine zr_put C dX11_put_163 (q := 166) zM_pX11_123_0 (by decide) (by decide) rfl ?_
                            refine zr_ls h (fun s47 h => ?_)
                            refine zr_aload_n C dX11_put_166 (q := 167) rfl 1 rfl rfl ?_
                            refine zr_get C dX11_put_167 (q := 170) zM_gX11_131_0 rfl ?_
                            exact zr_retI dX11_put_170 h hr
                          · skip
                            refine zr_iconst C dX11_put_92 (q := 93) (v := (-1 : Int32)) (by decide) rfl ?_
                            exact zr_retI dX11_put_93 h hr
                  · skip
                    refine zr_iload C dX11_put_57 (q := 59) 4 rfl rfl ?_
                    obtain ⟨r3, hc_59, h⟩ := zx_b1_so h
                    refine zr_csI (q := 62) C (As := [.int p4]) (rest := []) dX11_put_59 (zM_ValueBenchModel_isVariable_met C.2.2.2.2.1 C.2.2.2.1 hc_59) zM_sX11_134 ⟨by decide, by decide⟩ rfl (Nat.le_of_ble_eq_true rfl) rfl rfl ?_
                    refine zr_if_eq (tgt := 92) (q := 65) C dX11_put_62 h (by decide) rfl (fun h => ?_) (fun h => ?_)
                    · skip
                      refine zr_iconst C dX11_put_92 (q := 93) (v := (-1 : Int32)) (by decide) rfl ?_
                      exact zr_retI dX11_put_93 h hr
                    · skip
                      refine zr_iload_n C dX11_put_65 (q := 66) rfl 2 rfl rfl ?_
                      refine zr_iconst C dX11_put_66 (q := 67) (v := (3 : Int32)) (by decide) rfl ?_
                      refine zr_icmp_lt (tgt := 94) (q := 70) C dX11_put_67 h (by decide) rfl (fun h => ?_) (fun h => ?_)
                      · skip
                        refine zr_bipush C dX11_put_94 (q := 96) (v := (100 : Int32)) (by decide) rfl ?_
                        refine zr_iload_n C dX11_put_96 (q := 97) rfl 1 rfl rfl ?_
                        refine zr_imul C dX11_put_97 (q := 98) rfl ?_
                        refine zr_aload_n C dX11_put_98 (q := 99) rfl 0 rfl rfl ?_
                        refine zr_get C dX11_put_99 (q := 102) zM_gX11_22_0 rfl ?_
                        refine zr_iload_n C dX11_put_102 (q := 103) rfl 1 rfl rfl ?_
                        obtain ⟨hin_103, h⟩ := zx_ck_so h
                        refine zr_iald C dX11_put_103 (q := 104) zM_a5 hin_103 rfl ?_
                        refine zr_iadd C dX11_put_104 (q := 105) rfl ?_
                        refine zr_top h (fun v6_26 h => ?_)
                        refine zr_istore C dX11_put_105 (q := 107) (by decide) (lv' := [(6, .int v6_26), (0, .ref (zz_d Z 0)), (1, .int p1), (2, .int p2), (3, .int p3), (4, .int p4), (5, .int p5)]) rfl rfl ?_
                        refine zr_aload_n C dX11_put_107 (q := 108) rfl 1 rfl rfl ?_
                        refine zr_get C dX11_put_108 (q := 111) zM_gX11_7_0 rfl ?_
                        refine zr_iload C dX11_put_111 (q := 113) 0 rfl rfl ?_
                        refine zr_iload_n C dX11_put_113 (q := 114) rfl 3 rfl rfl ?_
                        obtain ⟨hin_114, h⟩ := zx_ck_so h
                        refine zr_iast C dX11_put_114 (q := 115) zM_a1 hin_114 rfl ?_
                        refine zr_ls h (fun s27 h => ?_)
                        refine zr_aload_n C dX11_put_115 (q := 116) rfl 1 rfl rfl ?_
                        refine zr_get C dX11_put_116 (q := 119) zM_gX11_13_0 rfl ?_
                        refine zr_iload C dX11_put_119 (q := 121) 0 rfl rfl ?_
                        refine zr_iload_n C dX11_put_121 (q := 122) rfl 4 rfl rfl ?_
                        obtain ⟨hin_122, h⟩ := zx_ck_so h
                        refine zr_iast C dX11_put_122 (q := 123) zM_a2 hin_122 rfl ?_
                        refine zr_ls h (fun s28 h => ?_)
                        refine zr_aload_n C dX11_put_123 (q := 124) rfl 1 rfl rfl ?_
                        refine zr_get C dX11_put_124 (q := 127) zM_gX11_16_0 rfl ?_
                        refine zr_iload C dX11_put_127 (q := 129) 0 rfl rfl ?_
                        refine zr_iload C dX11_put_129 (q := 131) 5 rfl rfl ?_
                        obtain ⟨hin_131, h⟩ := zx_ck_so h
                        refine zr_iast C dX11_put_131 (q := 132) zM_a3 hin_131 rfl ?_
                        refine zr_ls h (fun s29 h => ?_)
                        refine zr_aload_n C dX11_put_132 (q := 133) rfl 1 rfl rfl ?_
                        refine zr_get C dX11_put_133 (q := 136) zM_gX11_19_0 rfl ?_
                        refine zr_iload C dX11_put_136 (q := 138) 0 rfl rfl ?_
                        refine zr_iload C dX11_put_138 (q := 140) 6 rfl rfl ?_
                        obtain ⟨hin_140, h⟩ := zx_ck_so h
                        refine zr_iast C dX11_put_140 (q := 141) zM_a4 hin_140 rfl ?_
                        refine zr_ls h (fun s30 h => ?_)
                        refine zr_aload_n C dX11_put_141 (q := 142) rfl 1 rfl rfl ?_
                        refine zr_get C dX11_put_142 (q := 145) zM_gX11_22_0 rfl ?_
                        refine zr_iload_n C dX11_put_145 (q := 146) rfl 2 rfl rfl ?_
                        refine zr_dup2 C dX11_put_146 (q := 147) rfl rfl rfl ?_
                        obtain ⟨hin_147, h⟩ := zx_ck_so h
                        refine zr_iald C dX11_put_147 (q := 148) zM_a5 hin_147 rfl ?_
                        refine zr_iconst C dX11_put_148 (q := 149) (v := (1 : Int32)) (by decide) rfl ?_
                        refine zr_iadd C dX11_put_149 (q := 150) rfl ?_
                        refine zr_top h (fun x31 h => ?_)
                        obtain ⟨hin_150, h⟩ := zx_ck_so h
                        refine zr_iast C dX11_put_150 (q := 151) zM_a5 hin_150 rfl ?_
                        refine zr_ls h (fun s32 h => ?_)
                        refine zr_aload_n C dX11_put_151 (q := 152) rfl 1 rfl rfl ?_
                        refine zr_dup C dX11_put_152 (q := 153) rfl rfl ?_
                        refine zr_get C dX11_put_153 (q := 156) zM_gX11_131_0 rfl ?_
                        refine zr_iconst C dX11_put_156 (q := 157) (v := (1 : Int32)) (by decide) rfl ?_
                        refine zr_iadd C dX11_put_157 (q := 158) rfl ?_
                        refine zr_top h (fun x33 h => ?_)
                        refine zr_put C dX11_put_158 (q := 161) zM_pX11_131_0 rfl rfl rfl ?_
                        refine zr_ls h (fun s34 h => ?_)
                        refine zr_aload_n C dX11_put_161 (q := 162) rfl 1 rfl rfl ?_
                        refine zr_iconst C dX11_put_162 (q := 163) (v := (0 : Int32)) (by decide) rfl ?_
                        refine zr_put C dX11_put_163 (q := 166) zM_pX11_123_0 (by decide) (by decide) rfl ?_
                        refine zr_ls h (fun s35 h => ?_)
                        refine zr_aload_n C dX11_put_166 (q := 167) rfl 1 rfl rfl ?_
                        refine zr_get C dX11_put_167 (q := 170) zM_gX11_131_0 rfl ?_
                        exact zr_retI dX11_put_170 h hr
                      · skip
                        refine zr_iload_n C dX11_put_70 (q := 71) rfl 2 rfl rfl ?_
                        refine zr_bipush C dX11_put_71 (q := 73) (v := (14 : Int32)) (by decide) rfl ?_
                        refine zr_icmp_ge (tgt := 94) (q := 76) C dX11_put_73 h (by decide) rfl (fun h => ?_) (fun h => ?_)
                        · skip
                          refine zr_bipush C dX11_put_94 (q := 96) (v := (100 : Int32)) (by decide) rfl ?_
                          refine zr_iload_n C dX11_put_96 (q := 97) rfl 1 rfl rfl ?_
                          refine zr_imul C dX11_put_97 (q := 98) rfl ?_
                          refine zr_aload_n C dX11_put_98 (q := 99) rfl 0 rfl rfl ?_
                          refine zr_get C dX11_put_99 (q := 102) zM_gX11_22_0 rfl ?_
                          refine zr_iload_n C dX11_put_102 (q := 103) rfl 1 rfl rfl ?_
                          obtain ⟨hin_103, h⟩ := zx_ck_so h
                          refine zr_iald C dX11_put_103 (q := 104) zM_a5 hin_103 rfl ?_
                          refine zr_iadd C dX11_put_104 (q := 105) rfl ?_
                          refine zr_top h (fun v6_16 h => ?_)
                          refine zr_istore C dX11_put_105 (q := 107) (by decide) (lv' := [(6, .int v6_16), (0, .ref (zz_d Z 0)), (1, .int p1), (2, .int p2), (3, .int p3), (4, .int p4), (5, .int p5)]) rfl rfl ?_
                          refine zr_aload_n C dX11_put_107 (q := 108) rfl 1 rfl rfl ?_
                          refine zr_get C dX11_put_108 (q := 111) zM_gX11_7_0 rfl ?_
                          refine zr_iload C dX11_put_111 (q := 113) 0 rfl rfl ?_
                          refine zr_iload_n C dX11_put_113 (q := 114) rfl 3 rfl rfl ?_
                          obtain ⟨hin_114, h⟩ := zx_ck_so h
                          refine zr_iast C dX11_put_114 (q := 115) zM_a1 hin_114 rfl ?_
                          refine zr_ls h (fun s17 h => ?_)
                          refine zr_aload_n C dX11_put_115 (q := 116) rfl 1 rfl rfl ?_
                          refine zr_get C dX11_put_116 (q := 119) zM_gX11_13_0 rfl ?_
                          refine zr_iload C dX11_put_119 (q := 121) 0 rfl rfl ?_
                          refine zr_iload_n C dX11_put_121 (q := 122) rfl 4 rfl rfl ?_
                          obtain ⟨hin_122, h⟩ := zx_ck_so h
                          refine zr_iast C dX11_put_122 (q := 123) zM_a2 hin_122 rfl ?_
                          refine zr_ls h (fun s18 h => ?_)
                          refine zr_aload_n C dX11_put_123 (q := 124) rfl 1 rfl rfl ?_
                          refine zr_get C dX11_put_124 (q := 127) zM_gX11_16_0 rfl ?_
                          refine zr_iload C dX11_put_127 (q := 129) 0 rfl rfl ?_
                          refine zr_iload C dX11_put_129 (q := 131) 5 rfl rfl ?_
                          obtain ⟨hin_131, h⟩ := zx_ck_so h
                          refine zr_iast C dX11_put_131 (q := 132) zM_a3 hin_131 rfl ?_
                          refine zr_ls h (fun s19 h => ?_)
                          refine zr_aload_n C dX11_put_132 (q := 133) rfl 1 rfl rfl ?_
                          refine zr_get C dX11_put_133 (q := 136) zM_gX11_19_0 rfl ?_
                          refine zr_iload C dX11_put_136 (q := 138) 0 rfl rfl ?_
                          refine zr_iload C dX11_put_138 (q := 140) 6 rfl rfl ?_
                          obtain ⟨hin_140, h⟩ := zx_ck_so h
                          refine zr_iast C dX11_put_140 (q := 141) zM_a4 hin_140 rfl ?_
                          refine zr_ls h (fun s20 h => ?_)
                          refine zr_aload_n C dX11_put_141 (q := 142) rfl 1 rfl rfl ?_
                          refine zr_get C dX11_put_142 (q := 145) zM_gX11_22_0 rfl ?_
                          refine zr_iload_n C dX11_put_145 (q := 146) rfl 2 rfl rfl ?_
                          refine zr_dup2 C dX11_put_146 (q := 147) rfl rfl rfl ?_
                          obtain ⟨hin_147, h⟩ := zx_ck_so h
                          refine zr_iald C dX11_put_147 (q := 148) zM_a5 hin_147 rfl ?_
                          refine zr_iconst C dX11_put_148 (q := 149) (v := (1 : Int32)) (by decide) rfl ?_
                          refine zr_iadd C dX11_put_149 (q := 150) rfl ?_
                          refine zr_top h (fun x21 h => ?_)
                          obtain ⟨hin_150, h⟩ := zx_ck_so h
                          refine zr_iast C dX11_put_150 (q := 151) zM_a5 hin_150 rfl ?_
                          refine zr_ls h (fun s22 h => ?_)
                          refine zr_aload_n C dX11_put_151 (q := 152) rfl 1 rfl rfl ?_
                          refine zr_dup C dX11_put_152 (q := 153) rfl rfl ?_
                          refine zr_get C dX11_put_153 (q := 156) zM_gX11_131_0 rfl ?_
                          refine zr_iconst C dX11_put_156 (q := 157) (v := (1 : Int32)) (by decide) rfl ?_
                          refine zr_iadd C dX11_put_157 (q := 158) rfl ?_
                          refine zr_top h (fun x23 h => ?_)
                          refine zr_put C dX11_put_158 (q := 161) zM_pX11_131_0 rfl rfl rfl ?_
                          refine zr_ls h (fun s24 h => ?_)
                          refine zr_aload_n C dX11_put_161 (q := 162) rfl 1 rfl rfl ?_
                          refine zr_iconst C dX11_put_162 (q := 163) (v := (0 : Int32)) (by decide) rfl ?_
                          refine zr_put C dX11_put_163 (q := 166) zM_pX11_123_0 (by decide) (by decide) rfl ?_
                          refine zr_ls h (fun s25 h => ?_)
                          refine zr_aload_n C dX11_put_166 (q := 167) rfl 1 rfl rfl ?_
                          refine zr_get C dX11_put_167 (q := 170) zM_gX11_131_0 rfl ?_
                          exact zr_retI dX11_put_170 h hr
                        · skip
                          refine zr_iload C dX11_put_76 (q := 78) 4 rfl rfl ?_
                          obtain ⟨r4, hc_78, h⟩ := zx_b1_so h
                          refine zr_csI (q := 81) C (As := [.int p4]) (rest := []) dX11_put_78 (zM_ValueBenchModel_isVariable_met C.2.2.2.2.1 C.2.2.2.1 hc_78) zM_sX11_134 ⟨by decide, by decide⟩ rfl (Nat.le_of_ble_eq_true rfl) rfl rfl ?_
                          refine zr_if_eq (tgt := 92) (q := 84) C dX11_put_81 h (by decide) rfl (fun h => ?_) (fun h => ?_)
                          · skip
                            refine zr_iconst C dX11_put_92 (q := 93) (v := (-1 : Int32)) (by decide) rfl ?_
                            exact zr_retI dX11_put_93 h hr
                          · skip
                            refine zr_iload C dX11_put_84 (q := 86) 5 rfl rfl ?_
                            obtain ⟨r5, hc_86, h⟩ := zx_b1_so h
                            refine zr_csI (q := 89) C (As := [.int p5]) (rest := []) dX11_put_86 (zM_ValueBenchModel_isVariable_met C.2.2.2.2.1 C.2.2.2.1 hc_86) zM_sX11_134 ⟨by decide, by decide⟩ rfl (Nat.le_of_ble_eq_true rfl) rfl rfl ?_
                            refine zr_if_ne (tgt := 94) (q := 92) C dX11_put_89 h (by decide) rfl (fun h => ?_) (fun h => ?_)
                            · skip
                              refine zr_bipush C dX11_put_94 (q := 96) (v := (100 : Int32)) (by decide) rfl ?_
                              refine zr_iload_n C dX11_put_96 (q := 97) rfl 1 rfl rfl ?_
                              refine zr_imul C dX11_put_97 (q := 98) rfl ?_
                              refine zr_aload_n C dX11_put_98 (q := 99) rfl 0 rfl rfl ?_
                              refine zr_get C dX11_put_99 (q := 102) zM_gX11_22_0 rfl ?_
                              refine zr_iload_n C dX11_put_102 (q := 103) rfl 1 rfl rfl ?_
                              obtain ⟨hin_103, h⟩ := zx_ck_so h
                              refine zr_iald C dX11_put_103 (q := 104) zM_a5 hin_103 rfl ?_
                              refine zr_iadd C dX11_put_104 (q := 105) rfl ?_
                              refine zr_top h (fun v6_6 h => ?_)
                              refine zr_istore C dX11_put_105 (q := 107) (by decide) (lv' := [(6, .int v6_6), (0, .ref (zz_d Z 0)), (1, .int p1), (2, .int p2), (3, .int p3), (4, .int p4), (5, .int p5)]) rfl rfl ?_
                              refine zr_aload_n C dX11_put_107 (q := 108) rfl 1 rfl rfl ?_
                              refine zr_get C dX11_put_108 (q := 111) zM_gX11_7_0 rfl ?_
                              refine zr_iload C dX11_put_111 (q := 113) 0 rfl rfl ?_
                              refine zr_iload_n C dX11_put_113 (q := 114) rfl 3 rfl rfl ?_
                              obtain ⟨hin_114, h⟩ := zx_ck_so h
                              refine zr_iast C dX11_put_114 (q := 115) zM_a1 hin_114 rfl ?_
                              refine zr_ls h (fun s7 h => ?_)
                              refine zr_aload_n C dX11_put_115 (q := 116) rfl 1 rfl rfl ?_
                              refine zr_get C dX11_put_116 (q := 119) zM_gX11_13_0 rfl ?_
                              refine zr_iload C dX11_put_119 (q := 121) 0 rfl rfl ?_
                              refine zr_iload_n C dX11_put_121 (q := 122) rfl 4 rfl rfl ?_
                              obtain ⟨hin_122, h⟩ := zx_ck_so h
                              refine zr_iast C dX11_put_122 (q := 123) zM_a2 hin_122 rfl ?_
                              refine zr_ls h (fun s8 h => ?_)
                              refine zr_aload_n C dX11_put_123 (q := 124) rfl 1 rfl rfl ?_
                              refine zr_get C dX11_put_124 (q := 127) zM_gX11_16_0 rfl ?_
                              refine zr_iload C dX11_put_127 (q := 129) 0 rfl rfl ?_
                              refine zr_iload C dX11_put_129 (q := 131) 5 rfl rfl ?_
                              obtain ⟨hin_131, h⟩ := zx_ck_so h
                              refine zr_iast C dX11_put_131 (q := 132) zM_a3 hin_131 rfl ?_
                              refine zr_ls h (fun s9 h => ?_)
                              refine zr_aload_n C dX11_put_132 (q := 133) rfl 1 rfl rfl ?_
                              refine zr_get C dX11_put_133 (q := 136) zM_gX11_19_0 rfl ?_
                              refine zr_iload C dX11_put_136 (q := 138) 0 rfl rfl ?_
                              refine zr_iload C dX11_put_138 (q := 140) 6 rfl rfl ?_
                              obtain ⟨hin_140, h⟩ := zx_ck_so h
                              refine zr_iast C dX11_put_140 (q := 141) zM_a4 hin_140 rfl ?_
                              refine zr_ls h (fun s10 h => ?_)
                              refine zr_aload_n C dX11_put_141 (q := 142) rfl 1 rfl rfl ?_
                              refine zr_get C dX11_put_142 (q := 145) zM_gX11_22_0 rfl ?_
                              refine zr_iload_n C dX11_put_145 (q := 146) rfl 2 rfl rfl ?_
                              refine zr_dup2 C dX11_put_146 (q := 147) rfl rfl rfl ?_
                              obtain ⟨hin_147, h⟩ := zx_ck_so h
                              refine zr_iald C dX11_put_147 (q := 148) zM_a5 hin_147 rfl ?_
                              refine zr_iconst C dX11_put_148 (q := 149) (v := (1 : Int32)) (by decide) rfl ?_
                              refine zr_iadd C dX11_put_149 (q := 150) rfl ?_
                              refine zr_top h (fun x11 h => ?_)
                              obtain ⟨hin_150, h⟩ := zx_ck_so h
                              refine zr_iast C dX11_put_150 (q := 151) zM_a5 hin_150 rfl ?_
                              refine zr_ls h (fun s12 h => ?_)
                              refine zr_aload_n C dX11_put_151 (q := 152) rfl 1 rfl rfl ?_
                              refine zr_dup C dX11_put_152 (q := 153) rfl rfl ?_
                              refine zr_get C dX11_put_153 (q := 156) zM_gX11_131_0 rfl ?_
                              refine zr_iconst C dX11_put_156 (q := 157) (v := (1 : Int32)) (by decide) rfl ?_
                              refine zr_iadd C dX11_put_157 (q := 158) rfl ?_
                              refine zr_top h (fun x13 h => ?_)
                              refine zr_put C dX11_put_158 (q := 161) zM_pX11_131_0 rfl rfl rfl ?_
                              refine zr_ls h (fun s14 h => ?_)
                              refine zr_aload_n C dX11_put_161 (q := 162) rfl 1 rfl rfl ?_
                              refine zr_iconst C dX11_put_162 (q := 163) (v := (0 : Int32)) (by decide) rfl ?_
                              refine zr_put C dX11_put_163 (q := 166) zM_pX11_123_0 (by decide) (by decide) rfl ?_
                              refine zr_ls h (fun s15 h => ?_)
                              refine zr_aload_n C dX11_put_166 (q := 167) rfl 1 rfl rfl ?_
                              refine zr_get C dX11_put_167 (q := 170) zM_gX11_131_0 rfl ?_
                              exact zr_retI dX11_put_170 h hr
                            · skip
                              refine zr_iconst C dX11_put_92 (q := 93) (v := (-1 : Int32)) (by decide) rfl ?_
                              exact zr_retI dX11_put_93 h hr
          · skip
            refine zr_iconst C dX11_put_34 (q := 35) (v := (-1 : Int32)) (by decide) rfl ?_
            exact zr_retI dX11_put_35 h hr
theorem zM_ValueBenchModel_put_met {l : Launch} {D : va_G} {cz : ClassId × ClassId} {ad : Nat → Nat} (hS : zx_So zM_sd) (hi : zx_I zM_sd ad) {p1 p2 p3 p4 p5 : Int32} {s : zx_S} {v : Int32} {s1 : zx_S} (h : zM_ValueBenchModel_put p1 p2 p3 p4 p5 s = some (v, s1)) : zx_MI zM_sd l D cz ad yX11_put cX11_put 7 .int 1 21 [.ref (ad 0), .int p1, .int p2, .int p3, .int p4, .int p5] s v s1 := zx_metI hS hi (by decide +kernel) rfl (Nat.le_of_ble_eq_true rfl) (fun Z e1 e2 e3 e4 C hr => by subst e1 e2 e3 e4; exact zM_ValueBenchModel_put_w (r := (v, s1)) C p1 p2 p3 p4 p5 s hr h)
