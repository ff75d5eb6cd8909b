set_option maxRecDepth 100000 in
set_option maxHeartbeats 4000000 in
theorem zM_ValueBenchModel_about_L172_w {Z : zx_Z} (C : zx_ok zM_sd Z cX11_about 5 RX11 5 112) {r : Int32 × zx_S} (v1 : Int32) (s : zx_S) {k210 : Int32 → Option (Int32 × zx_S)} (hr : zx_rI zM_sd Z cX11_about 5 .int r.1 r.2) (h210 : ∀ (a0 : Int32), k210 a0 = some r → zW zM_sd Z 5 210 [(3, .int a0)] [] s) : ∀ (n : Nat) (v3 : Int32) (v4 : Int32), zM_ValueBenchModel_about_L172 v1 s k210 n v3 v4 = some r → zW zM_sd Z 5 172 [(0, .ref (zz_d Z 0)), (1, .int v1), (3, .int v3), (4, .int v4)] [] s := by
  intro n
  induction n with
  | zero => intro v3 v4 h; unfold zM_ValueBenchModel_about_L172 at h; cases h
  | succ n ih =>
    intro v3 v4 h
    unfold zM_ValueBenchModel_about_L172 at h
    refine zr_iload C dX11_about_172 (q := 174) 3 rfl rfl ?_
    refine zr_aload_n C dX11_about_174 (q := 175) rfl 0 rfl rfl ?_
    refine zr_get C dX11_about_175 (q := 178) zM_gX11_120_0 rfl ?_
    refine zr_icmp_ge (tgt := 210) (q := 181) C dX11_about_178 h (by decide) rfl (fun h => ?_) (fun h => ?_)
    · skip
      exact zr_sub [2] rfl (h210 v3 h)
    · skip
      refine zr_iload_n C dX11_about_181 (q := 182) rfl 2 rfl rfl ?_
      refine zr_aload_n C dX11_about_182 (q := 183) rfl 0 rfl rfl ?_
      refine zr_get C dX11_about_183 (q := 186) zM_gX11_50_0 rfl ?_
      refine zr_bipush C dX11_about_186 (q := 188) (v := (16 : Int32)) (by decide) rfl ?_
      refine zr_iload_n C dX11_about_188 (q := 189) rfl 1 rfl rfl ?_
      refine zr_imul C dX11_about_189 (q := 190) rfl ?_
      refine zr_iload C dX11_about_190 (q := 192) 3 rfl rfl ?_
      refine zr_iadd C dX11_about_192 (q := 193) rfl ?_
      obtain ⟨hin_193, h⟩ := zx_ck_so h
      refine zr_zald C dX11_about_193 (q := 194) zM_a14 hin_193 rfl ?_
      refine zr_if_eq (tgt := 201) (q := 197) C dX11_about_194 h (by decide) rfl (fun h => ?_) (fun h => ?_)
      · skip
        refine zr_iconst C dX11_about_201 (q := 202) (v := (0 : Int32)) (by decide) rfl ?_
        refine zr_iadd C dX11_about_202 (q := 203) rfl ?_
        refine zr_top h (fun v3_6 h => ?_)
        refine zr_istore_n C dX11_about_203 (q := 204) rfl (by decide) (lv' := [(3, .int v3_6), (0, .ref (zz_d Z 0)), (1, .int v1), (4, .int v4)]) rfl rfl ?_
        refine zr_iinc C dX11_about_204 (q := 207) h (by decide) 3 rfl (by decide) (lw := fun v4_7 => [(4, .int v4_7), (3, .int v3_6), (0, .ref (zz_d Z 0)), (1, .int v1)]) (fun _ => rfl) rfl (fun v4_7 h => ?_)
        refine zr_goto (q := 172) C dX11_about_207 (by decide) ?_
        exact zr_sub [2, 3, 1, 0] rfl (ih v3_6 v4_7 h)
      · skip
        refine zr_iconst C dX11_about_197 (q := 198) (v := (1 : Int32)) (by decide) rfl ?_
        refine zr_goto (q := 202) C dX11_about_198 (by decide) ?_
        refine zr_iadd C dX11_about_202 (q := 203) rfl ?_
        refine zr_top h (fun v3_4 h => ?_)
        refine zr_istore_n C dX11_about_203 (q := 204) rfl (by decide) (lv' := [(3, .int v3_4), (0, .ref (zz_d Z 0)), (1, .int v1), (4, .int v4)]) rfl rfl ?_
        refine zr_iinc C dX11_about_204 (q := 207) h (by decide) 3 rfl (by decide) (lw := fun v4_5 => [(4, .int v4_5), (3, .int v3_4), (0, .ref (zz_d Z 0)), (1, .int v1)]) (fun _ => rfl) rfl (fun v4_5 h => ?_)
        refine zr_goto (q := 172) C dX11_about_207 (by decide) ?_
        exact zr_sub [2, 3, 1, 0] rfl (ih v3_4 v4_5 h)
set_option maxRecDepth 100000 in
set_option maxHeartbeats 4000000 in
theorem zM_ValueBenchModel_about_L131_w {Z : zx_Z} (C : zx_ok zM_sd Z cX11_about 5 RX11 5 112) {r : Int32 × zx_S} (v1 : Int32) (s : zx_S) {k167 : Int32 → Option (Int32 × zx_S)} (hr : zx_rI zM_sd Z cX11_about 5 .int r.1 r.2) (h167 : ∀ (a0 : Int32), k167 a0 = some r → zW zM_sd Z 5 167 [(3, .int a0)] [] s) : ∀ (n : Nat) (v3 : Int32) (v4 : Int32), zM_ValueBenchModel_about_L131 v1 s k167 n v3 v4 = some r → zW zM_sd Z 5 131 [(0, .ref (zz_d Z 0)), (1, .int v1), (3, .int v3), (4, .int v4)] [] s := by
  intro n
  induction n with
  | zero => intro v3 v4 h; unfold zM_ValueBenchModel_about_L131 at h; cases h
  | succ n ih =>
    intro v3 v4 h
    unfold zM_ValueBenchModel_about_L131 at h
    refine zr_iload C dX11_about_131 (q := 133) 3 rfl rfl ?_
    refine zr_bipush C dX11_about_133 (q := 135) (v := (10 : Int32)) (by decide) rfl ?_
    refine zr_icmp_ge (tgt := 167) (q := 138) C dX11_about_135 h (by decide) rfl (fun h => ?_) (fun h => ?_)
    · skip
      exact zr_sub [2] rfl (h167 v3 h)
    · skip
      refine zr_iload_n C dX11_about_138 (q := 139) rfl 2 rfl rfl ?_
      refine zr_aload_n C dX11_about_139 (q := 140) rfl 0 rfl rfl ?_
      refine zr_get C dX11_about_140 (q := 143) zM_gX11_53_0 rfl ?_
      refine zr_bipush C dX11_about_143 (q := 145) (v := (10 : Int32)) (by decide) rfl ?_
      refine zr_iload_n C dX11_about_145 (q := 146) rfl 1 rfl rfl ?_
      refine zr_imul C dX11_about_146 (q := 147) rfl ?_
      refine zr_iload C dX11_about_147 (q := 149) 3 rfl rfl ?_
      refine zr_iadd C dX11_about_149 (q := 150) rfl ?_
      obtain ⟨hin_150, h⟩ := zx_ck_so h
      refine zr_zald C dX11_about_150 (q := 151) zM_a15 hin_150 rfl ?_
      refine zr_if_eq (tgt := 158) (q := 154) C dX11_about_151 h (by decide) rfl (fun h => ?_) (fun h => ?_)
      · skip
        refine zr_iconst C dX11_about_158 (q := 159) (v := (0 : Int32)) (by decide) rfl ?_
        refine zr_iadd C dX11_about_159 (q := 160) rfl ?_
        refine zr_top h (fun v3_11 h => ?_)
        refine zr_istore_n C dX11_about_160 (q := 161) rfl (by decide) (lv' := [(3, .int v3_11), (0, .ref (zz_d Z 0)), (1, .int v1), (4, .int v4)]) rfl rfl ?_
        refine zr_iinc C dX11_about_161 (q := 164) h (by decide) 3 rfl (by decide) (lw := fun v4_12 => [(4, .int v4_12), (3, .int v3_11), (0, .ref (zz_d Z 0)), (1, .int v1)]) (fun _ => rfl) rfl (fun v4_12 h => ?_)
        refine zr_goto (q := 131) C dX11_about_164 (by decide) ?_
        exact zr_sub [2, 3, 1, 0] rfl (ih v3_11 v4_12 h)
      · skip
        refine zr_iconst C dX11_about_154 (q := 155) (v := (1 : Int32)) (by decide) rfl ?_
        refine zr_goto (q := 159) C dX11_about_155 (by decide) ?_
        refine zr_iadd C dX11_about_159 (q := 160) rfl ?_
        refine zr_top h (fun v3_9 h => ?_)
        refine zr_istore_n C dX11_about_160 (q := 161) rfl (by decide) (lv' := [(3, .int v3_9), (0, .ref (zz_d Z 0)), (1, .int v1), (4, .int v4)]) rfl rfl ?_
        refine zr_iinc C dX11_about_161 (q := 164) h (by decide) 3 rfl (by decide) (lw := fun v4_10 => [(4, .int v4_10), (3, .int v3_9), (0, .ref (zz_d Z 0)), (1, .int v1)]) (fun _ => rfl) rfl (fun v4_10 h => ?_)
        refine zr_goto (q := 131) C dX11_about_164 (by decide) ?_
        exact zr_sub [2, 3, 1, 0] rfl (ih v3_9 v4_10 h)
set_option maxRecDepth 100000 in
set_option maxHeartbeats 4000000 in
theorem zM_ValueBenchModel_about_L111_w {Z : zx_Z} (C : zx_ok zM_sd Z cX11_about 5 RX11 5 112) {r : Int32 × zx_S} (v1 : Int32) (s : zx_S) {k126 : Int32 → Option (Int32 × zx_S)} (hr : zx_rI zM_sd Z cX11_about 5 .int r.1 r.2) (h126 : ∀ (a0 : Int32), k126 a0 = some r → zW zM_sd Z 5 126 [(3, .int a0)] [] s) : ∀ (n : Nat) (v3 : Int32), zM_ValueBenchModel_about_L111 v1 s k126 n v3 = some r → zW zM_sd Z 5 111 [(0, .ref (zz_d Z 0)), (1, .int v1), (3, .int v3)] [] s := by
  intro n
  induction n with
  | zero => intro v3 h; unfold zM_ValueBenchModel_about_L111 at h; cases h
  | succ n ih =>
    intro v3 h
    unfold zM_ValueBenchModel_about_L111 at h
    refine zr_aload_n C dX11_about_111 (q := 112) rfl 0 rfl rfl ?_
    refine zr_iload_n C dX11_about_112 (q := 113) rfl 1 rfl rfl ?_
    refine zr_iload_n C dX11_about_113 (q := 114) rfl 2 rfl rfl ?_
    obtain ⟨r14, hc_114, h⟩ := zx_b1_so h
    refine zr_cvI (q := 117) C (As := [.int v1, .int v3]) (k := 0) (rest := []) dX11_about_114 (zM_ValueBenchModel_predecessorAt_met C.2.2.2.2.1 C.2.2.2.1 hc_114) zM_vX11_205 zM_o0 ⟨by decide, by decide⟩ rfl (Nat.le_of_ble_eq_true rfl) rfl rfl ?_
    refine zr_if_lt (tgt := 126) (q := 120) C dX11_about_117 h (by decide) rfl (fun h => ?_) (fun h => ?_)
    · skip
      exact zr_sub [2] rfl (h126 v3 h)
    · skip
      refine zr_iinc C dX11_about_120 (q := 123) h (by decide) 2 rfl (by decide) (lw := fun v3_15 => [(3, .int v3_15), (0, .ref (zz_d Z 0)), (1, .int v1)]) (fun _ => rfl) rfl (fun v3_15 h => ?_)
      refine zr_goto (q := 111) C dX11_about_123 (by decide) ?_
      exact zr_sub [1, 2, 0] rfl (ih v3_15 h)
set_option maxRecDepth 100000 in
set_option maxHeartbeats 4000000 in
theorem zM_ValueBenchModel_about_w {Z : zx_Z} (C : zx_ok zM_sd Z cX11_about 5 RX11 5 112) {r : Int32 × zx_S} (p1 p2 : Int32) (s : zx_S) (hr : zx_rI zM_sd Z cX11_about 5 .int r.1 r.2) (h : zM_ValueBenchModel_about p1 p2 s = some r) : zW zM_sd Z 5 0 [(0, .ref (zz_d Z 0)), (1, .int p1), (2, .int p2)] [] s := by
  unfold zM_ValueBenchModel_about at h
  refine zr_aload_n C dX11_about_0 (q := 1) rfl 0 rfl rfl ?_
  refine zr_iload_n C dX11_about_1 (q := 2) rfl 1 rfl rfl ?_
  obtain ⟨r1, hc_2, h⟩ := zx_b1_so h
  refine zr_cvI (q := 5) C (As := [.int p1]) (k := 0) (rest := []) dX11_about_2 (zM_ValueBenchModel_isBlock_met C.2.2.2.2.1 C.2.2.2.1 hc_2) zM_vX11_127 zM_o0 ⟨by decide, by decide⟩ rfl (Nat.le_of_ble_eq_true rfl) rfl rfl ?_
  refine zr_if_ne (tgt := 10) (q := 8) C dX11_about_5 h (by decide) rfl (fun h => ?_) (fun h => ?_)
  · skip
    refine zr_aload_n C dX11_about_10 (q := 11) rfl 0 rfl rfl ?_
    obtain ⟨s2, hc_11, h⟩ := zx_b1_so h
    refine zr_cvV (q := 14) C (As := []) (k := 0) (rest := []) dX11_about_11 (zM_ValueBenchModel_make_met C.2.2.2.2.1 C.2.2.2.1 hc_11) zM_vX11_215 zM_o0 ⟨by decide, by decide⟩ rfl (Nat.le_of_ble_eq_true rfl) rfl rfl ?_
    refine zr_iconst C dX11_about_14 (q := 15) (v := (0 : Int32)) (by decide) rfl ?_
    refine zr_istore_n C dX11_about_15 (q := 16) rfl (by decide) (lv' := [(3, .int (0 : Int32)), (0, .ref (zz_d Z 0)), (1, .int p1), (2, .int p2)]) rfl rfl ?_
    refine zr_iload_n C dX11_about_16 (q := 17) rfl 3 rfl rfl ?_
    refine zr_if_ne (tgt := 35) (q := 20) C dX11_about_17 h (by decide) rfl (fun h => ?_) (fun h => ?_)
    · skip
      refine zr_iload_n C dX11_about_35 (q := 36) rfl 3 rfl rfl ?_
      refine zr_iconst C dX11_about_36 (q := 37) (v := (3 : Int32)) (by decide) rfl ?_
      refine zr_icmp_ne (tgt := 47) (q := 40) C dX11_about_37 h (by decide) rfl (fun h => ?_) (fun h => ?_)
      · skip
        refine zr_iload_n C dX11_about_47 (q := 48) rfl 3 rfl rfl ?_
        refine zr_bipush C dX11_about_48 (q := 50) (v := (6 : Int32)) (by decide) rfl ?_
        refine zr_icmp_ne (tgt := 59) (q := 53) C dX11_about_50 h (by decide) rfl (fun h => ?_) (fun h => ?_)
        · skip
          refine zr_aload_n C dX11_about_59 (q := 60) rfl 1 rfl rfl ?_
          refine zr_get C dX11_about_60 (q := 63) zM_gX11_37_0 rfl ?_
          refine zr_iload_n C dX11_about_63 (q := 64) rfl 2 rfl rfl ?_
          obtain ⟨hin_64, h⟩ := zx_ck_so h
          refine zr_zald C dX11_about_64 (q := 65) zM_a10 hin_64 rfl ?_
          refine zr_if_ne (tgt := 70) (q := 68) C dX11_about_65 h (by decide) rfl (fun h => ?_) (fun h => ?_)
          · skip
            refine zr_iload_n C dX11_about_70 (q := 71) rfl 3 rfl rfl ?_
            by_cases e0 : p2 = (1 : Int32)
            · rw [if_pos e0] at h
              refine zr_tableIn (tgt := 104) (off := 33) C dX11_about_71 (by rw [e0]; decide) (by rw [e0]; decide) (by rw [e0] <;> exact rfl) (by decide) ?_
              refine zr_aload_n C dX11_about_104 (q := 105) rfl 1 rfl rfl ?_
              refine zr_get C dX11_about_105 (q := 108) zM_gX11_47_0 rfl ?_
              refine zr_iload_n C dX11_about_108 (q := 109) rfl 2 rfl rfl ?_
              obtain ⟨hin_109, h⟩ := zx_ck_so h
              refine zr_iald C dX11_about_109 (q := 110) zM_a13 hin_109 rfl ?_
              exact zr_retI dX11_about_110 h hr
            · rw [if_neg e0] at h
              by_cases e1 : p2 = (2 : Int32)
              · rw [if_pos e1] at h
                refine zr_tableIn (tgt := 111) (off := 40) C dX11_about_71 (by rw [e1]; decide) (by rw [e1]; decide) (by rw [e1] <;> exact rfl) (by decide) ?_
                refine zr_sub [1, 2, 0] rfl (zM_ValueBenchModel_about_L111_w C p1 s2 hr (fun v3_16 h => ?_) 10000 (0 : Int32) h)
                · skip
                  refine zr_iload_n C dX11_about_126 (q := 127) rfl 0 rfl rfl ?_
                  exact zr_retI dX11_about_127 h hr
              · rw [if_neg e1] at h
                by_cases e2 : p2 = (3 : Int32)
                · rw [if_pos e2] at h
                  refine zr_tableIn (tgt := 212) (off := 141) C dX11_about_71 (by rw [e2]; decide) (by rw [e2]; decide) (by rw [e2] <;> exact rfl) (by decide) ?_
                  refine zr_iconst C dX11_about_212 (q := 213) (v := (-1 : Int32)) (by decide) rfl ?_
                  exact zr_retI dX11_about_213 h hr
                · rw [if_neg e2] at h
                  by_cases e3 : p2 = (4 : Int32)
                  · rw [if_pos e3] at h
                    refine zr_tableIn (tgt := 128) (off := 57) C dX11_about_71 (by rw [e3]; decide) (by rw [e3]; decide) (by rw [e3] <;> exact rfl) (by decide) ?_
                    refine zr_iconst C dX11_about_128 (q := 129) (v := (0 : Int32)) (by decide) rfl ?_
                    refine zr_istore C dX11_about_129 (q := 131) (by decide) (lv' := [(4, .int (0 : Int32)), (3, .int (0 : Int32)), (0, .ref (zz_d Z 0)), (1, .int p1), (2, .int p2)]) rfl rfl ?_
                    refine zr_sub [2, 3, 1, 0] rfl (zM_ValueBenchModel_about_L131_w C p1 s2 hr (fun v3_13 h => ?_) 10000 (0 : Int32) (0 : Int32) h)
                    · skip
                      refine zr_iload_n C dX11_about_167 (q := 168) rfl 0 rfl rfl ?_
                      exact zr_retI dX11_about_168 h hr
                  · rw [if_neg e3] at h
                    by_cases e4 : p2 = (5 : Int32)
                    · rw [if_pos e4] at h
                      refine zr_tableIn (tgt := 169) (off := 98) C dX11_about_71 (by rw [e4]; decide) (by rw [e4]; decide) (by rw [e4] <;> exact rfl) (by decide) ?_
                      refine zr_iconst C dX11_about_169 (q := 170) (v := (0 : Int32)) (by decide) rfl ?_
                      refine zr_istore C dX11_about_170 (q := 172) (by decide) (lv' := [(4, .int (0 : Int32)), (3, .int (0 : Int32)), (0, .ref (zz_d Z 0)), (1, .int p1), (2, .int p2)]) rfl rfl ?_
                      refine zr_sub [2, 3, 1, 0] rfl (zM_ValueBenchModel_about_L172_w C p1 s2 hr (fun v3_8 h => ?_) 10000 (0 : Int32) (0 : Int32) h)
                      · skip
                        refine zr_iload_n C dX11_about_210 (q := 211) rfl 0 rfl rfl ?_
                        exact zr_retI dX11_about_211 h hr
                    · rw [if_neg e4] at h
                      refine zr_tableOut (tgt := 212) C dX11_about_71 (by have f0 := lv_neT (a := 1) e0 (by decide); have f1 := lv_neT (a := 2) e1 (by decide); have f2 := lv_neT (a := 3) e2 (by decide); have f3 := lv_neT (a := 4) e3 (by decide); have f4 := lv_neT (a := 5) e4 (by decide); omega) (by decide) ?_
                      refine zr_iconst C dX11_about_212 (q := 213) (v := (-1 : Int32)) (by decide) rfl ?_
                      exact zr_retI dX11_about_213 h hr
          · skip
            refine zr_iconst C dX11_about_68 (q := 69) (v := (-1 : Int32)) (by decide) rfl ?_
            exact zr_retI dX11_about_69 h hr
        · skip
          refine zr_aload_n C dX11_about_53 (q := 54) rfl 1 rfl rfl ?_
          refine zr_iload_n C dX11_about_54 (q := 55) rfl 2 rfl rfl ?_
          obtain ⟨r3, hc_55, h⟩ := zx_b1_so h
          refine zr_cvI (q := 58) C (As := [.int p1]) (k := 0) (rest := []) dX11_about_55 (zM_ValueBenchModel_howOf_met C.2.2.2.2.1 C.2.2.2.1 hc_55) zM_vX11_137 zM_o0 ⟨by decide, by decide⟩ rfl (Nat.le_of_ble_eq_true rfl) rfl rfl ?_
          exact zr_retI dX11_about_58 h hr
      · skip
        refine zr_aload_n C dX11_about_40 (q := 41) rfl 1 rfl rfl ?_
        refine zr_get C dX11_about_41 (q := 44) zM_gX11_22_0 rfl ?_
        refine zr_iload_n C dX11_about_44 (q := 45) rfl 2 rfl rfl ?_
        obtain ⟨hin_45, h⟩ := zx_ck_so h
        refine zr_iald C dX11_about_45 (q := 46) zM_a5 hin_45 rfl ?_
        exact zr_retI dX11_about_46 h hr
    · skip
      refine zr_aload_n C dX11_about_20 (q := 21) rfl 1 rfl rfl ?_
      refine zr_get C dX11_about_21 (q := 24) zM_gX11_37_0 rfl ?_
      refine zr_iload_n C dX11_about_24 (q := 25) rfl 2 rfl rfl ?_
      obtain ⟨hin_25, h⟩ := zx_ck_so h
      refine zr_zald C dX11_about_25 (q := 26) zM_a10 hin_25 rfl ?_
      refine zr_if_eq (tgt := 33) (q := 29) C dX11_about_26 h (by decide) rfl (fun h => ?_) (fun h => ?_)
      · skip
        refine zr_iconst C dX11_about_33 (q := 34) (v := (0 : Int32)) (by decide) rfl ?_
        exact zr_retI dX11_about_34 h hr
      · skip
        refine zr_iconst C dX11_about_29 (q := 30) (v := (1 : Int32)) (by decide) rfl ?_
        refine zr_goto (q := 34) C dX11_about_30 (by decide) ?_
        exact zr_retI dX11_about_34 h hr
  · skip
    refine zr_iconst C dX11_about_8 (q := 9) (v := (-1 : Int32)) (by decide) rfl ?_
    exact zr_retI dX11_about_9 h hr
theorem zM_ValueBenchModel_about_met {l : Launch} {D : va_G} {cz : ClassId × ClassId} {ad : Nat → Nat} (hS : zx_So zM_sd) (hi : zx_I zM_sd ad) {p1 p2 : Int32} {s : zx_S} {v : Int32} {s1 : zx_S} (h : zM_ValueBenchModel_about p1 p2 s = some (v, s1)) : zx_MI zM_sd l D cz ad yX11_about cX11_about 5 .int 5 112 [.ref (ad 0), .int p1, .int p2] s v s1 := zx_metI hS hi (by decide +kernel) rfl (Nat.le_of_ble_eq_true rfl) (fun Z e1 e2 e3 e4 C hr => by subst e1 e2 e3 e4; exact zM_ValueBenchModel_about_w (r := (v, s1)) C p1 p2 s hr h)
set_option maxRecDepth 100000 in
set_option maxHeartbeats 4000000 in
theorem zM_ValueBenchModel_predecessor_w {Z : zx_Z} (C : zx_ok zM_sd Z cX11_predecessor 3 RX11 5 112) {r : Int32 × zx_S} (p1 p2 : Int32) (s : zx_S) (hr : zx_rI zM_sd Z cX11_predecessor 3 .int r.1 r.2) (h : zM_ValueBenchModel_predecessor p1 p2 s = some r) : zW zM_sd Z 3 0 [(0, .ref (zz_d Z 0)), (1, .int p1), (2, .int p2)] [] s := by
  unfold zM_ValueBenchModel_predecessor at h
  refine zr_aload_n C dX11_predecessor_0 (q := 1) rfl 0 rfl rfl ?_
  refine zr_iload_n C dX11_predecessor_1 (q := 2) rfl 1 rfl rfl ?_
  obtain ⟨r1, hc_2, h⟩ := zx_b1_so h
  refine zr_cvI (q := 5) C (As := [.int p1]) (k := 0) (rest := []) dX11_predecessor_2 (zM_ValueBenchModel_isBlock_met C.2.2.2.2.1 C.2.2.2.1 hc_2) zM_vX11_127 zM_o0 ⟨by decide, by decide⟩ rfl (Nat.le_of_ble_eq_true rfl) rfl rfl ?_
  refine zr_if_ne (tgt := 10) (q := 8) C dX11_predecessor_5 h (by decide) rfl (fun h => ?_) (fun h => ?_)
  · skip
    refine zr_aload_n C dX11_predecessor_10 (q := 11) rfl 0 rfl rfl ?_
    obtain ⟨s2, hc_11, h⟩ := zx_b1_so h
    refine zr_cvV (q := 14) C (As := []) (k := 0) (rest := []) dX11_predecessor_11 (zM_ValueBenchModel_make_met C.2.2.2.2.1 C.2.2.2.1 hc_11) zM_vX11_215 zM_o0 ⟨by decide, by decide⟩ rfl (Nat.le_of_ble_eq_true rfl) rfl rfl ?_
    refine zr_aload_n C dX11_predecessor_14 (q := 15) rfl 0 rfl rfl ?_
    refine zr_get C dX11_predecessor_15 (q := 18) zM_gX11_37_0 rfl ?_
    refine zr_iload_n C dX11_predecessor_18 (q := 19) rfl 1 rfl rfl ?_
    obtain ⟨hin_19, h⟩ := zx_ck_so h
    refine zr_zald C dX11_predecessor_19 (q := 20) zM_a10 hin_19 rfl ?_
    refine zr_if_eq (tgt := 32) (q := 23) C dX11_predecessor_20 h (by decide) rfl (fun h => ?_) (fun h => ?_)
    · skip
      refine zr_iconst C dX11_predecessor_32 (q := 33) (v := (-1 : Int32)) (by decide) rfl ?_
      exact zr_retI dX11_predecessor_33 h hr
    · skip
      refine zr_aload_n C dX11_predecessor_23 (q := 24) rfl 0 rfl rfl ?_
      refine zr_iload_n C dX11_predecessor_24 (q := 25) rfl 1 rfl rfl ?_
      refine zr_iload_n C dX11_predecessor_25 (q := 26) rfl 2 rfl rfl ?_
      obtain ⟨r3, hc_26, h⟩ := zx_b1_so h
      refine zr_cvI (q := 29) C (As := [.int p1, .int p2]) (k := 0) (rest := []) dX11_predecessor_26 (zM_ValueBenchModel_predecessorAt_met C.2.2.2.2.1 C.2.2.2.1 hc_26) zM_vX11_205 zM_o0 ⟨by decide, by decide⟩ rfl (Nat.le_of_ble_eq_true rfl) rfl rfl ?_
      refine zr_goto (q := 33) C dX11_predecessor_29 (by decide) ?_
      exact zr_retI dX11_predecessor_33 h hr
  · skip
    refine zr_iconst C dX11_predecessor_8 (q := 9) (v := (-1 : Int32)) (by decide) rfl ?_
    exact zr_retI dX11_predecessor_9 h hr
theorem zM_ValueBenchModel_predecessor_met {l : Launch} {D : va_G} {cz : ClassId × ClassId} {ad : Nat → Nat} (hS : zx_So zM_sd) (hi : zx_I zM_sd ad) {p1 p2 : Int32} {s : zx_S} {v : Int32} {s1 : zx_S} (h : zM_ValueBenchModel_predecessor p1 p2 s = some (v, s1)) : zx_MI zM_sd l D cz ad yX11_predecessor cX11_predecessor 3 .int 5 112 [.ref (ad 0), .int p1, .int p2] s v s1 := zx_metI hS hi (by decide +kernel) rfl (Nat.le_of_ble_eq_true rfl) (fun Z e1 e2 e3 e4 C hr => by subst e1 e2 e3 e4; exact zM_ValueBenchModel_predecessor_w (r := (v, s1)) C p1 p2 s hr h)
set_option maxRecDepth 100000 in
set_option maxHeartbeats 4000000 in
theorem zM_ValueBenchModel_areReached_w {Z : zx_Z} (C : zx_ok zM_sd Z cX11_areReached 3 RX11 5 112) {r : Int32 × zx_S} (p1 p2 : Int32) (s : zx_S) (hr : zx_rI zM_sd Z cX11_areReached 3 .boolean r.1 r.2) (h : zM_ValueBenchModel_areReached p1 p2 s = some r) : zW zM_sd Z 3 0 [(0, .ref (zz_d Z 0)), (1, .int p1), (2, .int p2)] [] s := by
  unfold zM_ValueBenchModel_areReached at h
  refine zr_aload_n C dX11_areReached_0 (q := 1) rfl 0 rfl rfl ?_
  refine zr_iload_n C dX11_areReached_1 (q := 2) rfl 1 rfl rfl ?_
  obtain ⟨r1, hc_2, h⟩ := zx_b1_so h
  refine zr_cvI (q := 5) C (As := [.int p1]) (k := 0) (rest := []) dX11_areReached_2 (zM_ValueBenchModel_isBlock_met C.2.2.2.2.1 C.2.2.2.1 hc_2) zM_vX11_127 zM_o0 ⟨by decide, by decide⟩ rfl (Nat.le_of_ble_eq_true rfl) rfl rfl ?_
  refine zr_if_eq (tgt := 16) (q := 8) C dX11_areReached_5 h (by decide) rfl (fun h => ?_) (fun h => ?_)
  · skip
    refine zr_iconst C dX11_areReached_16 (q := 17) (v := (0 : Int32)) (by decide) rfl ?_
    exact zr_retZI dX11_areReached_17 (Or.inl rfl) h hr
  · skip
    refine zr_aload_n C dX11_areReached_8 (q := 9) rfl 0 rfl rfl ?_
    refine zr_iload_n C dX11_areReached_9 (q := 10) rfl 2 rfl rfl ?_
    obtain ⟨r2, hc_10, h⟩ := zx_b1_so h
    refine zr_cvI (q := 13) C (As := [.int p2]) (k := 0) (rest := []) dX11_areReached_10 (zM_ValueBenchModel_isBlock_met C.2.2.2.2.1 C.2.2.2.1 hc_10) zM_vX11_127 zM_o0 ⟨by decide, by decide⟩ rfl (Nat.le_of_ble_eq_true rfl) rfl rfl ?_
    refine zr_if_ne (tgt := 18) (q := 16) C dX11_areReached_13 h (by decide) rfl (fun h => ?_) (fun h => ?_)
    · skip
      refine zr_aload_n C dX11_areReached_18 (q := 19) rfl 0 rfl rfl ?_
      obtain ⟨s3, hc_19, h⟩ := zx_b1_so h
      refine zr_cvV (q := 22) C (As := []) (k := 0) (rest := []) dX11_areReached_19 (zM_ValueBenchModel_make_met C.2.2.2.2.1 C.2.2.2.1 hc_19) zM_vX11_215 zM_o0 ⟨by decide, by decide⟩ rfl (Nat.le_of_ble_eq_true rfl) rfl rfl ?_
      refine zr_aload_n C dX11_areReached_22 (q := 23) rfl 0 rfl rfl ?_
      refine zr_get C dX11_areReached_23 (q := 26) zM_gX11_37_0 rfl ?_
      refine zr_iload_n C dX11_areReached_26 (q := 27) rfl 1 rfl rfl ?_
      obtain ⟨hin_27, h⟩ := zx_ck_so h
      refine zr_zald C dX11_areReached_27 (q := 28) zM_a10 hin_27 rfl ?_
      refine zr_if_eq (tgt := 44) (q := 31) C dX11_areReached_28 h (by decide) rfl (fun h => ?_) (fun h => ?_)
      · skip
        refine zr_iconst C dX11_areReached_44 (q := 45) (v := (0 : Int32)) (by decide) rfl ?_
        exact zr_retZI dX11_areReached_45 (Or.inl rfl) h hr
      · skip
        refine zr_aload_n C dX11_areReached_31 (q := 32) rfl 0 rfl rfl ?_
        refine zr_get C dX11_areReached_32 (q := 35) zM_gX11_37_0 rfl ?_
        refine zr_iload_n C dX11_areReached_35 (q := 36) rfl 2 rfl rfl ?_
        obtain ⟨hin_36, h⟩ := zx_ck_so h
        refine zr_zald C dX11_areReached_36 (q := 37) zM_a10 hin_36 rfl ?_
        refine zr_if_eq (tgt := 44) (q := 40) C dX11_areReached_37 h (by decide) rfl (fun h => ?_) (fun h => ?_)
        · skip
          refine zr_iconst C dX11_areReached_44 (q := 45) (v := (0 : Int32)) (by decide) rfl ?_
          exact zr_retZI dX11_areReached_45 (Or.inl rfl) h hr
        · skip
          refine zr_iconst C dX11_areReached_40 (q := 41) (v := (1 : Int32)) (by decide) rfl ?_
          refine zr_goto (q := 45) C dX11_areReached_41 (by decide) ?_
          exact zr_retZI dX11_areReached_45 (Or.inr rfl) h hr
    · skip
      refine zr_iconst C dX11_areReached_16 (q := 17) (v := (0 : Int32)) (by decide) rfl ?_
      exact zr_retZI dX11_areReached_17 (Or.inl rfl) h hr
theorem zM_ValueBenchModel_areReached_met {l : Launch} {D : va_G} {cz : ClassId × ClassId} {ad : Nat → Nat} (hS : zx_So zM_sd) (hi : zx_I zM_sd ad) {p1 p2 : Int32} {s : zx_S} {v : Int32} {s1 : zx_S} (h : zM_ValueBenchModel_areReached p1 p2 s = some (v, s1)) : zx_MI zM_sd l D cz ad yX11_areReached cX11_areReached 3 .boolean 5 112 [.ref (ad 0), .int p1, .int p2] s v s1 := zx_metI hS hi (by decide +kernel) rfl (Nat.le_of_ble_eq_true rfl) (fun Z e1 e2 e3 e4 C hr => by subst e1 e2 e3 e4; exact zM_ValueBenchModel_areReached_w (r := (v, s1)) C p1 p2 s hr h)
set_option maxRecDepth 100000 in
set_option maxHeartbeats 4000000 in
theorem zM_ValueBenchModel_dominates_w {Z : zx_Z} (C : zx_ok zM_sd Z cX11_dominates 3 RX11 6 134) {r : Int32 × zx_S} (p1 p2 : Int32) (s : zx_S) (hr : zx_rI zM_sd Z cX11_dominates 3 .int r.1 r.2) (h : zM_ValueBenchModel_dominates p1 p2 s = some r) : zW zM_sd Z 3 0 [(0, .ref (zz_d Z 0)), (1, .int p1), (2, .int p2)] [] s := by
  unfold zM_ValueBenchModel_dominates at h
  refine zr_aload_n C dX11_dominates_0 (q := 1) rfl 0 rfl rfl ?_
  refine zr_iload_n C dX11_dominates_1 (q := 2) rfl 1 rfl rfl ?_
  refine zr_iload_n C dX11_dominates_2 (q := 3) rfl 2 rfl rfl ?_
  obtain ⟨r1, s2, hc_3, h⟩ := zx_b2_so h
  refine zr_cvI (q := 6) C (As := [.int p1, .int p2]) (k := 0) (rest := []) dX11_dominates_3 (zM_ValueBenchModel_areReached_met C.2.2.2.2.1 C.2.2.2.1 hc_3) zM_vX11_257 zM_o0 ⟨by decide, by decide⟩ rfl (Nat.le_of_ble_eq_true rfl) rfl rfl ?_
  refine zr_if_ne (tgt := 13) (q := 9) C dX11_dominates_6 h (by decide) rfl (fun h => ?_) (fun h => ?_)
  · skip
    refine zr_aload_n C dX11_dominates_13 (q := 14) rfl 0 rfl rfl ?_
    refine zr_iload_n C dX11_dominates_14 (q := 15) rfl 1 rfl rfl ?_
    refine zr_iload_n C dX11_dominates_15 (q := 16) rfl 2 rfl rfl ?_
    obtain ⟨r3, hc_16, h⟩ := zx_b1_so h
    refine zr_cvI (q := 19) C (As := [.int p1, .int p2]) (k := 0) (rest := []) dX11_dominates_16 (zM_ValueBenchModel_dominates1_met C.2.2.2.2.1 C.2.2.2.1 hc_16) zM_vX11_149 zM_o0 ⟨by decide, by decide⟩ rfl (Nat.le_of_ble_eq_true rfl) rfl rfl ?_
    refine zr_if_eq (tgt := 26) (q := 22) C dX11_dominates_19 h (by decide) rfl (fun h => ?_) (fun h => ?_)
    · skip
      refine zr_iconst C dX11_dominates_26 (q := 27) (v := (0 : Int32)) (by decide) rfl ?_
      exact zr_retI dX11_dominates_27 h hr
    · skip
      refine zr_iconst C dX11_dominates_22 (q := 23) (v := (1 : Int32)) (by decide) rfl ?_
      refine zr_goto (q := 27) C dX11_dominates_23 (by decide) ?_
      exact zr_retI dX11_dominates_27 h hr
  · skip
    refine zr_iconst C dX11_dominates_9 (q := 10) (v := (-1 : Int32)) (by decide) rfl ?_
    refine zr_goto (q := 27) C dX11_dominates_10 (by decide) ?_
    exact zr_retI dX11_dominates_27 h hr
theorem zM_ValueBenchModel_dominates_met {l : Launch} {D : va_G} {cz : ClassId × ClassId} {ad : Nat → Nat} (hS : zx_So zM_sd) (hi : zx_I zM_sd ad) {p1 p2 : Int32} {s : zx_S} {v : Int32} {s1 : zx_S} (h : zM_ValueBenchModel_dominates p1 p2 s = some (v, s1)) : zx_MI zM_sd l D cz ad yX11_dominates cX11_dominates 3 .int 6 134 [.ref (ad 0), .int p1, .int p2] s v s1 := zx_metI hS hi (by decide +kernel) rfl (Nat.le_of_ble_eq_true rfl) (fun Z e1 e2 e3 e4 C hr => by subst e1 e2 e3 e4; exact zM_ValueBenchModel_dominates_w (r := (v, s1)) C p1 p2 s hr h)
set_option maxRecDepth 100000 in
set_option maxHeartbeats 4000000 in
theorem zM_ValueBenchModel_meets_w {Z : zx_Z} (C : zx_ok zM_sd Z cX11_meets 3 RX11 6 134) {r : Int32 × zx_S} (p1 p2 : Int32) (s : zx_S) (hr : zx_rI zM_sd Z cX11_meets 3 .int r.1 r.2) (h : zM_ValueBenchModel_meets p1 p2 s = some r) : zW zM_sd Z 3 0 [(0, .ref (zz_d Z 0)), (1, .int p1), (2, .int p2)] [] s := by
  unfold zM_ValueBenchModel_meets at h
  refine zr_aload_n C dX11_meets_0 (q := 1) rfl 0 rfl rfl ?_
  refine zr_iload_n C dX11_meets_1 (q := 2) rfl 1 rfl rfl ?_
  refine zr_iload_n C dX11_meets_2 (q := 3) rfl 2 rfl rfl ?_
  obtain ⟨r1, s2, hc_3, h⟩ := zx_b2_so h
  refine zr_cvI (q := 6) C (As := [.int p1, .int p2]) (k := 0) (rest := []) dX11_meets_3 (zM_ValueBenchModel_areReached_met C.2.2.2.2.1 C.2.2.2.1 hc_3) zM_vX11_257 zM_o0 ⟨by decide, by decide⟩ rfl (Nat.le_of_ble_eq_true rfl) rfl rfl ?_
  refine zr_if_ne (tgt := 13) (q := 9) C dX11_meets_6 h (by decide) rfl (fun h => ?_) (fun h => ?_)
  · skip
    refine zr_aload_n C dX11_meets_13 (q := 14) rfl 0 rfl rfl ?_
    refine zr_get C dX11_meets_14 (q := 17) zM_gX11_50_0 rfl ?_
    refine zr_bipush C dX11_meets_17 (q := 19) (v := (16 : Int32)) (by decide) rfl ?_
    refine zr_iload_n C dX11_meets_19 (q := 20) rfl 1 rfl rfl ?_
    refine zr_imul C dX11_meets_20 (q := 21) rfl ?_
    refine zr_iload_n C dX11_meets_21 (q := 22) rfl 2 rfl rfl ?_
    refine zr_iadd C dX11_meets_22 (q := 23) rfl ?_
    obtain ⟨hin_23, h⟩ := zx_ck_so h
    refine zr_zald C dX11_meets_23 (q := 24) zM_a14 hin_23 rfl ?_
    refine zr_if_eq (tgt := 31) (q := 27) C dX11_meets_24 h (by decide) rfl (fun h => ?_) (fun h => ?_)
    · skip
      refine zr_iconst C dX11_meets_31 (q := 32) (v := (0 : Int32)) (by decide) rfl ?_
      exact zr_retI dX11_meets_32 h hr
    · skip
      refine zr_iconst C dX11_meets_27 (q := 28) (v := (1 : Int32)) (by decide) rfl ?_
      refine zr_goto (q := 32) C dX11_meets_28 (by decide) ?_
      exact zr_retI dX11_meets_32 h hr
  · skip
    refine zr_iconst C dX11_meets_9 (q := 10) (v := (-1 : Int32)) (by decide) rfl ?_
    refine zr_goto (q := 32) C dX11_meets_10 (by decide) ?_
    exact zr_retI dX11_meets_32 h hr
theorem zM_ValueBenchModel_meets_met {l : Launch} {D : va_G} {cz : ClassId × ClassId} {ad : Nat → Nat} (hS : zx_So zM_sd) (hi : zx_I zM_sd ad) {p1 p2 : Int32} {s : zx_S} {v : Int32} {s1 : zx_S} (h : zM_ValueBenchModel_meets p1 p2 s = some (v, s1)) : zx_MI zM_sd l D cz ad yX11_meets cX11_meets 3 .int 6 134 [.ref (ad 0), .int p1, .int p2] s v s1 := zx_metI hS hi (by decide +kernel) rfl (Nat.le_of_ble_eq_true rfl) (fun Z e1 e2 e3 e4 C hr => by subst e1 e2 e3 e4; exact zM_ValueBenchModel_meets_w (r := (v, s1)) C p1 p2 s hr h)
set_option maxRecDepth 100000 in
set_option maxHeartbeats 4000000 in
theorem zM_ValueBenchModel_isValue_w {Z : zx_Z} (C : zx_ok zM_sd Z cX11_isValue 2 RX11 5 112) {r : Int32 × zx_S} (p1 : Int32) (s : zx_S) (hr : zx_rI zM_sd Z cX11_isValue 2 .boolean r.1 r.2) (h : zM_ValueBenchModel_isValue p1 s = some r) : zW zM_sd Z 2 0 [(0, .ref (zz_d Z 0)), (1, .int p1)] [] s := by
  unfold zM_ValueBenchModel_isValue at h
  refine zr_aload_n C dX11_isValue_0 (q := 1) rfl 0 rfl rfl ?_
  obtain ⟨s1, hc_1, h⟩ := zx_b1_so h
  refine zr_cvV (q := 4) C (As := []) (k := 0) (rest := []) dX11_isValue_1 (zM_ValueBenchModel_make_met C.2.2.2.2.1 C.2.2.2.1 hc_1) zM_vX11_215 zM_o0 ⟨by decide, by decide⟩ rfl (Nat.le_of_ble_eq_true rfl) rfl rfl ?_
  refine zr_iload_n C dX11_isValue_4 (q := 5) rfl 1 rfl rfl ?_
  refine zr_if_lt (tgt := 20) (q := 8) C dX11_isValue_5 h (by decide) rfl (fun h => ?_) (fun h => ?_)
  · skip
    refine zr_iconst C dX11_isValue_20 (q := 21) (v := (0 : Int32)) (by decide) rfl ?_
    exact zr_retZI dX11_isValue_21 (Or.inl rfl) h hr
  · skip
    refine zr_iload_n C dX11_isValue_8 (q := 9) rfl 1 rfl rfl ?_
    refine zr_aload_n C dX11_isValue_9 (q := 10) rfl 0 rfl rfl ?_
    refine zr_get C dX11_isValue_10 (q := 13) zM_gX11_155_0 rfl ?_
    refine zr_icmp_ge (tgt := 20) (q := 16) C dX11_isValue_13 h (by decide) rfl (fun h => ?_) (fun h => ?_)
    · skip
      refine zr_iconst C dX11_isValue_20 (q := 21) (v := (0 : Int32)) (by decide) rfl ?_
      exact zr_retZI dX11_isValue_21 (Or.inl rfl) h hr
    · skip
      refine zr_iconst C dX11_isValue_16 (q := 17) (v := (1 : Int32)) (by decide) rfl ?_
      refine zr_goto (q := 21) C dX11_isValue_17 (by decide) ?_
      exact zr_retZI dX11_isValue_21 (Or.inr rfl) h hr
theorem zM_ValueBenchModel_isValue_met {l : Launch} {D : va_G} {cz : ClassId × ClassId} {ad : Nat → Nat} (hS : zx_So zM_sd) (hi : zx_I zM_sd ad) {p1 : Int32} {s : zx_S} {v : Int32} {s1 : zx_S} (h : zM_ValueBenchModel_isValue p1 s = some (v, s1)) : zx_MI zM_sd l D cz ad yX11_isValue cX11_isValue 2 .boolean 5 112 [.ref (ad 0), .int p1] s v s1 := zx_metI hS hi (by decide +kernel) rfl (Nat.le_of_ble_eq_true rfl) (fun Z e1 e2 e3 e4 C hr => by subst e1 e2 e3 e4; exact zM_ValueBenchModel_isValue_w (r := (v, s1)) C p1 s hr h)
set_option maxRecDepth 100000 in
set_option maxHeartbeats 4000000 in
theorem zM_ValueBenchModel_value_w {Z : zx_Z} (C : zx_ok zM_sd Z cX11_value 3 RX11 6 133) {r : Int32 × zx_S} (p1 p2 : Int32) (s : zx_S) (hr : zx_rI zM_sd Z cX11_value 3 .int r.1 r.2) (h : zM_ValueBenchModel_value p1 p2 s = some r) : zW zM_sd Z 3 0 [(0, .ref (zz_d Z 0)), (1, .int p1), (2, .int p2)] [] s := by
  unfold zM_ValueBenchModel_value at h
  refine zr_aload_n C dX11_value_0 (q := 1) rfl 0 rfl rfl ?_
  refine zr_iload_n C dX11_value_1 (q := 2) rfl 1 rfl rfl ?_
  obtain ⟨r1, s2, hc_2, h⟩ := zx_b2_so h
  refine zr_cvI (q := 5) C (As := [.int p1]) (k := 0) (rest := []) dX11_value_2 (zM_ValueBenchModel_isValue_met C.2.2.2.2.1 C.2.2.2.1 hc_2) zM_vX11_260 zM_o0 ⟨by decide, by decide⟩ rfl (Nat.le_of_ble_eq_true rfl) rfl rfl ?_
  refine zr_if_ne (tgt := 10) (q := 8) C dX11_value_5 h (by decide) rfl (fun h => ?_) (fun h => ?_)
  · skip
    refine zr_iload_n C dX11_value_10 (q := 11) rfl 2 rfl rfl ?_
    by_cases e0 : p2 = (0 : Int32)
    · rw [if_pos e0] at h
      refine zr_tableIn (tgt := 52) (off := 41) C dX11_value_11 (by rw [e0]; decide) (by rw [e0]; decide) (by rw [e0] <;> exact rfl) (by decide) ?_
      refine zr_aload_n C dX11_value_52 (q := 53) rfl 0 rfl rfl ?_
      refine zr_get C dX11_value_53 (q := 56) zM_gX11_56_0 rfl ?_
      refine zr_iload_n C dX11_value_56 (q := 57) rfl 1 rfl rfl ?_
      obtain ⟨hin_57, h⟩ := zx_ck_so h
      refine zr_iald C dX11_value_57 (q := 58) zM_a16 hin_57 rfl ?_
      exact zr_retI dX11_value_58 h hr
    · rw [if_neg e0] at h
      by_cases e1 : p2 = (1 : Int32)
      · rw [if_pos e1] at h
        refine zr_tableIn (tgt := 59) (off := 48) C dX11_value_11 (by rw [e1]; decide) (by rw [e1]; decide) (by rw [e1] <;> exact rfl) (by decide) ?_
        refine zr_aload_n C dX11_value_59 (q := 60) rfl 0 rfl rfl ?_
        refine zr_get C dX11_value_60 (q := 63) zM_gX11_59_0 rfl ?_
        refine zr_iload_n C dX11_value_63 (q := 64) rfl 1 rfl rfl ?_
        obtain ⟨hin_64, h⟩ := zx_ck_so h
        refine zr_iald C dX11_value_64 (q := 65) zM_a17 hin_64 rfl ?_
        exact zr_retI dX11_value_65 h hr
      · rw [if_neg e1] at h
        by_cases e2 : p2 = (2 : Int32)
        · rw [if_pos e2] at h
          refine zr_tableIn (tgt := 66) (off := 55) C dX11_value_11 (by rw [e2]; decide) (by rw [e2]; decide) (by rw [e2] <;> exact rfl) (by decide) ?_
          refine zr_aload_n C dX11_value_66 (q := 67) rfl 0 rfl rfl ?_
          refine zr_get C dX11_value_67 (q := 70) zM_gX11_62_0 rfl ?_
          refine zr_iload_n C dX11_value_70 (q := 71) rfl 1 rfl rfl ?_
          obtain ⟨hin_71, h⟩ := zx_ck_so h
          refine zr_iald C dX11_value_71 (q := 72) zM_a18 hin_71 rfl ?_
          exact zr_retI dX11_value_72 h hr
        · rw [if_neg e2] at h
          by_cases e3 : p2 = (3 : Int32)
          · rw [if_pos e3] at h
            refine zr_tableIn (tgt := 73) (off := 62) C dX11_value_11 (by rw [e3]; decide) (by rw [e3]; decide) (by rw [e3] <;> exact rfl) (by decide) ?_
            refine zr_aload_n C dX11_value_73 (q := 74) rfl 0 rfl rfl ?_
            refine zr_get C dX11_value_74 (q := 77) zM_gX11_92_0 rfl ?_
            refine zr_iload_n C dX11_value_77 (q := 78) rfl 1 rfl rfl ?_
            obtain ⟨hin_78, h⟩ := zx_ck_so h
            refine zr_iald C dX11_value_78 (q := 79) zM_a28 hin_78 rfl ?_
            exact zr_retI dX11_value_79 h hr
          · rw [if_neg e3] at h
            by_cases e4 : p2 = (4 : Int32)
            · rw [if_pos e4] at h
              refine zr_tableIn (tgt := 80) (off := 69) C dX11_value_11 (by rw [e4]; decide) (by rw [e4]; decide) (by rw [e4] <;> exact rfl) (by decide) ?_
              refine zr_aload_n C dX11_value_80 (q := 81) rfl 0 rfl rfl ?_
              refine zr_get C dX11_value_81 (q := 84) zM_gX11_98_0 rfl ?_
              refine zr_iload_n C dX11_value_84 (q := 85) rfl 1 rfl rfl ?_
              obtain ⟨hin_85, h⟩ := zx_ck_so h
              refine zr_zald C dX11_value_85 (q := 86) zM_a30 hin_85 rfl ?_
              refine zr_if_eq (tgt := 93) (q := 89) C dX11_value_86 h (by decide) rfl (fun h => ?_) (fun h => ?_)
              · skip
                refine zr_iconst C dX11_value_93 (q := 94) (v := (0 : Int32)) (by decide) rfl ?_
                exact zr_retI dX11_value_94 h hr
              · skip
                refine zr_iconst C dX11_value_89 (q := 90) (v := (1 : Int32)) (by decide) rfl ?_
                refine zr_goto (q := 94) C dX11_value_90 (by decide) ?_
                exact zr_retI dX11_value_94 h hr
            · rw [if_neg e4] at h
              by_cases e5 : p2 = (5 : Int32)
              · rw [if_pos e5] at h
                refine zr_tableIn (tgt := 95) (off := 84) C dX11_value_11 (by rw [e5]; decide) (by rw [e5]; decide) (by rw [e5] <;> exact rfl) (by decide) ?_
                refine zr_aload_n C dX11_value_95 (q := 96) rfl 0 rfl rfl ?_
                refine zr_get C dX11_value_96 (q := 99) zM_gX11_74_0 rfl ?_
                refine zr_iload_n C dX11_value_99 (q := 100) rfl 1 rfl rfl ?_
                obtain ⟨hin_100, h⟩ := zx_ck_so h
                refine zr_iald C dX11_value_100 (q := 101) zM_a22 hin_100 rfl ?_
                exact zr_retI dX11_value_101 h hr
              · rw [if_neg e5] at h
                by_cases e6 : p2 = (6 : Int32)
                · rw [if_pos e6] at h
                  refine zr_tableIn (tgt := 102) (off := 91) C dX11_value_11 (by rw [e6]; decide) (by rw [e6]; decide) (by rw [e6] <;> exact rfl) (by decide) ?_
                  refine zr_aload_n C dX11_value_102 (q := 103) rfl 0 rfl rfl ?_
                  refine zr_get C dX11_value_103 (q := 106) zM_gX11_65_0 rfl ?_
                  refine zr_iload_n C dX11_value_106 (q := 107) rfl 1 rfl rfl ?_
                  obtain ⟨hin_107, h⟩ := zx_ck_so h
                  refine zr_iald C dX11_value_107 (q := 108) zM_a19 hin_107 rfl ?_
                  exact zr_retI dX11_value_108 h hr
                · rw [if_neg e6] at h
                  refine zr_tableOut (tgt := 109) C dX11_value_11 (by have f0 := lv_neT (a := 0) e0 (by decide); have f1 := lv_neT (a := 1) e1 (by decide); have f2 := lv_neT (a := 2) e2 (by decide); have f3 := lv_neT (a := 3) e3 (by decide); have f4 := lv_neT (a := 4) e4 (by decide); have f5 := lv_neT (a := 5) e5 (by decide); have f6 := lv_neT (a := 6) e6 (by decide); omega) (by decide) ?_
                  refine zr_iconst C dX11_value_109 (q := 110) (v := (-1 : Int32)) (by decide) rfl ?_
                  exact zr_retI dX11_value_110 h hr
  · skip
    refine zr_iconst C dX11_value_8 (q := 9) (v := (-1 : Int32)) (by decide) rfl ?_
    exact zr_retI dX11_value_9 h hr
theorem zM_ValueBenchModel_value_met {l : Launch} {D : va_G} {cz : ClassId × ClassId} {ad : Nat → Nat} (hS : zx_So zM_sd) (hi : zx_I zM_sd ad) {p1 p2 : Int32} {s : zx_S} {v : Int32} {s1 : zx_S} (h : zM_ValueBenchModel_value p1 p2 s = some (v, s1)) : zx_MI zM_sd l D cz ad yX11_value cX11_value 3 .int 6 133 [.ref (ad 0), .int p1, .int p2] s v s1 := zx_metI hS hi (by decide +kernel) rfl (Nat.le_of_ble_eq_true rfl) (fun Z e1 e2 e3 e4 C hr => by subst e1 e2 e3 e4; exact zM_ValueBenchModel_value_w (r := (v, s1)) C p1 p2 s hr h)
set_option maxRecDepth 100000 in
set_option maxHeartbeats 4000000 in
theorem zM_ValueBenchModel_isOperand_w {Z : zx_Z} (C : zx_ok zM_sd Z cX11_isOperand 3 RX11 6 133) {r : Int32 × zx_S} (p1 p2 : Int32) (s : zx_S) (hr : zx_rI zM_sd Z cX11_isOperand 3 .boolean r.1 r.2) (h : zM_ValueBenchModel_isOperand p1 p2 s = some r) : zW zM_sd Z 3 0 [(0, .ref (zz_d Z 0)), (1, .int p1), (2, .int p2)] [] s := by
  unfold zM_ValueBenchModel_isOperand at h
  refine zr_aload_n C dX11_isOperand_0 (q := 1) rfl 0 rfl rfl ?_
  refine zr_iload_n C dX11_isOperand_1 (q := 2) rfl 1 rfl rfl ?_
  obtain ⟨r1, s2, hc_2, h⟩ := zx_b2_so h
  refine zr_cvI (q := 5) C (As := [.int p1]) (k := 0) (rest := []) dX11_isOperand_2 (zM_ValueBenchModel_isValue_met C.2.2.2.2.1 C.2.2.2.1 hc_2) zM_vX11_260 zM_o0 ⟨by decide, by decide⟩ rfl (Nat.le_of_ble_eq_true rfl) rfl rfl ?_
  refine zr_if_eq (tgt := 26) (q := 8) C dX11_isOperand_5 h (by decide) rfl (fun h => ?_) (fun h => ?_)
  · skip
    refine zr_iconst C dX11_isOperand_26 (q := 27) (v := (0 : Int32)) (by decide) rfl ?_
    exact zr_retZI dX11_isOperand_27 (Or.inl rfl) h hr
  · skip
    refine zr_iload_n C dX11_isOperand_8 (q := 9) rfl 2 rfl rfl ?_
    refine zr_if_lt (tgt := 26) (q := 12) C dX11_isOperand_9 h (by decide) rfl (fun h => ?_) (fun h => ?_)
    · skip
      refine zr_iconst C dX11_isOperand_26 (q := 27) (v := (0 : Int32)) (by decide) rfl ?_
      exact zr_retZI dX11_isOperand_27 (Or.inl rfl) h hr
    · skip
      refine zr_iload_n C dX11_isOperand_12 (q := 13) rfl 2 rfl rfl ?_
      refine zr_aload_n C dX11_isOperand_13 (q := 14) rfl 0 rfl rfl ?_
      refine zr_get C dX11_isOperand_14 (q := 17) zM_gX11_74_0 rfl ?_
      refine zr_iload_n C dX11_isOperand_17 (q := 18) rfl 1 rfl rfl ?_
      obtain ⟨hin_18, h⟩ := zx_ck_so h
      refine zr_iald C dX11_isOperand_18 (q := 19) zM_a22 hin_18 rfl ?_
      refine zr_icmp_ge (tgt := 26) (q := 22) C dX11_isOperand_19 h (by decide) rfl (fun h => ?_) (fun h => ?_)
      · skip
        refine zr_iconst C dX11_isOperand_26 (q := 27) (v := (0 : Int32)) (by decide) rfl ?_
        exact zr_retZI dX11_isOperand_27 (Or.inl rfl) h hr
      · skip
        refine zr_iconst C dX11_isOperand_22 (q := 23) (v := (1 : Int32)) (by decide) rfl ?_
        refine zr_goto (q := 27) C dX11_isOperand_23 (by decide) ?_
        exact zr_retZI dX11_isOperand_27 (Or.inr rfl) h hr
theorem zM_ValueBenchModel_isOperand_met {l : Launch} {D : va_G} {cz : ClassId × ClassId} {ad : Nat → Nat} (hS : zx_So zM_sd) (hi : zx_I zM_sd ad) {p1 p2 : Int32} {s : zx_S} {v : Int32} {s1 : zx_S} (h : zM_ValueBenchModel_isOperand p1 p2 s = some (v, s1)) : zx_MI zM_sd l D cz ad yX11_isOperand cX11_isOperand 3 .boolean 6 133 [.ref (ad 0), .int p1, .int p2] s v s1 := zx_metI hS hi (by decide +kernel) rfl (Nat.le_of_ble_eq_true rfl) (fun Z e1 e2 e3 e4 C hr => by subst e1 e2 e3 e4; exact zM_ValueBenchModel_isOperand_w (r := (v, s1)) C p1 p2 s hr h)
set_option maxRecDepth 100000 in
set_option maxHeartbeats 4000000 in
theorem zM_ValueBenchModel_operand_w {Z : zx_Z} (C : zx_ok zM_sd Z cX11_operand 3 RX11 7 155) {r : Int32 × zx_S} (p1 p2 : Int32) (s : zx_S) (hr : zx_rI zM_sd Z cX11_operand 3 .int r.1 r.2) (h : zM_ValueBenchModel_operand p1 p2 s = some r) : zW zM_sd Z 3 0 [(0, .ref (zz_d Z 0)), (1, .int p1), (2, .int p2)] [] s := by
  unfold zM_ValueBenchModel_operand at h
  refine zr_aload_n C dX11_operand_0 (q := 1) rfl 0 rfl rfl ?_
  refine zr_iload_n C dX11_operand_1 (q := 2) rfl 1 rfl rfl ?_
  refine zr_iload_n C dX11_operand_2 (q := 3) rfl 2 rfl rfl ?_
  obtain ⟨r1, s2, hc_3, h⟩ := zx_b2_so h
  refine zr_cvI (q := 6) C (As := [.int p1, .int p2]) (k := 0) (rest := []) dX11_operand_3 (zM_ValueBenchModel_isOperand_met C.2.2.2.2.1 C.2.2.2.1 hc_3) zM_vX11_263 zM_o0 ⟨by decide, by decide⟩ rfl (Nat.le_of_ble_eq_true rfl) rfl rfl ?_
  refine zr_if_eq (tgt := 23) (q := 9) C dX11_operand_6 h (by decide) rfl (fun h => ?_) (fun h => ?_)
  · skip
    refine zr_iconst C dX11_operand_23 (q := 24) (v := (-1 : Int32)) (by decide) rfl ?_
    exact zr_retI dX11_operand_24 h hr
  · skip
    refine zr_aload_n C dX11_operand_9 (q := 10) rfl 0 rfl rfl ?_
    refine zr_get C dX11_operand_10 (q := 13) zM_gX11_71_0 rfl ?_
    refine zr_bipush C dX11_operand_13 (q := 15) (v := (20 : Int32)) (by decide) rfl ?_
    refine zr_iload_n C dX11_operand_15 (q := 16) rfl 1 rfl rfl ?_
    refine zr_imul C dX11_operand_16 (q := 17) rfl ?_
    refine zr_iload_n C dX11_operand_17 (q := 18) rfl 2 rfl rfl ?_
    refine zr_iadd C dX11_operand_18 (q := 19) rfl ?_
    obtain ⟨hin_19, h⟩ := zx_ck_so h
    refine zr_iald C dX11_operand_19 (q := 20) zM_a21 hin_19 rfl ?_
    refine zr_goto (q := 24) C dX11_operand_20 (by decide) ?_
    exact zr_retI dX11_operand_24 h hr
theorem zM_ValueBenchModel_operand_met {l : Launch} {D : va_G} {cz : ClassId × ClassId} {ad : Nat → Nat} (hS : zx_So zM_sd) (hi : zx_I zM_sd ad) {p1 p2 : Int32} {s : zx_S} {v : Int32} {s1 : zx_S} (h : zM_ValueBenchModel_operand p1 p2 s = some (v, s1)) : zx_MI zM_sd l D cz ad yX11_operand cX11_operand 3 .int 7 155 [.ref (ad 0), .int p1, .int p2] s v s1 := zx_metI hS hi (by decide +kernel) rfl (Nat.le_of_ble_eq_true rfl) (fun Z e1 e2 e3 e4 C hr => by subst e1 e2 e3 e4; exact zM_ValueBenchModel_operand_w (r := (v, s1)) C p1 p2 s hr h)
set_option maxRecDepth 100000 in
set_option maxHeartbeats 4000000 in
theorem zM_ValueBenchModel_led_w {Z : zx_Z} (C : zx_ok zM_sd Z cX11_led 3 RX11 7 155) {r : Int32 × zx_S} (p1 p2 : Int32) (s : zx_S) (hr : zx_rI zM_sd Z cX11_led 3 .int r.1 r.2) (h : zM_ValueBenchModel_led p1 p2 s = some r) : zW zM_sd Z 3 0 [(0, .ref (zz_d Z 0)), (1, .int p1), (2, .int p2)] [] s := by
  unfold zM_ValueBenchModel_led at h
  refine zr_aload_n C dX11_led_0 (q := 1) rfl 0 rfl rfl ?_
  refine zr_iload_n C dX11_led_1 (q := 2) rfl 1 rfl rfl ?_
  refine zr_iload_n C dX11_led_2 (q := 3) rfl 2 rfl rfl ?_
  obtain ⟨r1, s2, hc_3, h⟩ := zx_b2_so h
  refine zr_cvI (q := 6) C (As := [.int p1, .int p2]) (k := 0) (rest := []) dX11_led_3 (zM_ValueBenchModel_isOperand_met C.2.2.2.2.1 C.2.2.2.1 hc_3) zM_vX11_263 zM_o0 ⟨by decide, by decide⟩ rfl (Nat.le_of_ble_eq_true rfl) rfl rfl ?_
  refine zr_if_eq (tgt := 27) (q := 9) C dX11_led_6 h (by decide) rfl (fun h => ?_) (fun h => ?_)
  · skip
    refine zr_iconst C dX11_led_27 (q := 28) (v := (-1 : Int32)) (by decide) rfl ?_
    exact zr_retI dX11_led_28 h hr
  · skip
    refine zr_aload_n C dX11_led_9 (q := 10) rfl 0 rfl rfl ?_
    refine zr_get C dX11_led_10 (q := 13) zM_gX11_98_0 rfl ?_
    refine zr_iload_n C dX11_led_13 (q := 14) rfl 1 rfl rfl ?_
    obtain ⟨hin_14, h⟩ := zx_ck_so h
    refine zr_zald C dX11_led_14 (q := 15) zM_a30 hin_14 rfl ?_
    refine zr_if_ne (tgt := 27) (q := 18) C dX11_led_15 h (by decide) rfl (fun h => ?_) (fun h => ?_)
    · skip
      refine zr_iconst C dX11_led_27 (q := 28) (v := (-1 : Int32)) (by decide) rfl ?_
      exact zr_retI dX11_led_28 h hr
    · skip
      refine zr_aload_n C dX11_led_18 (q := 19) rfl 0 rfl rfl ?_
      refine zr_iload_n C dX11_led_19 (q := 20) rfl 1 rfl rfl ?_
      refine zr_iload_n C dX11_led_20 (q := 21) rfl 2 rfl rfl ?_
      obtain ⟨r3, hc_21, h⟩ := zx_b1_so h
      refine zr_cvI (q := 24) C (As := [.int p1, .int p2]) (k := 0) (rest := []) dX11_led_21 (zM_ValueBenchModel_ledOperand_met C.2.2.2.2.1 C.2.2.2.1 hc_21) zM_vX11_245 zM_o0 ⟨by decide, by decide⟩ rfl (Nat.le_of_ble_eq_true rfl) rfl rfl ?_
      refine zr_goto (q := 28) C dX11_led_24 (by decide) ?_
      exact zr_retI dX11_led_28 h hr
theorem zM_ValueBenchModel_led_met {l : Launch} {D : va_G} {cz : ClassId × ClassId} {ad : Nat → Nat} (hS : zx_So zM_sd) (hi : zx_I zM_sd ad) {p1 p2 : Int32} {s : zx_S} {v : Int32} {s1 : zx_S} (h : zM_ValueBenchModel_led p1 p2 s = some (v, s1)) : zx_MI zM_sd l D cz ad yX11_led cX11_led 3 .int 7 155 [.ref (ad 0), .int p1, .int p2] s v s1 := zx_metI hS hi (by decide +kernel) rfl (Nat.le_of_ble_eq_true rfl) (fun Z e1 e2 e3 e4 C hr => by subst e1 e2 e3 e4; exact zM_ValueBenchModel_led_w (r := (v, s1)) C p1 p2 s hr h)
set_option maxRecDepth 100000 in
set_option maxHeartbeats 4000000 in
theorem zM_ValueBenchModel_classOf_w {Z : zx_Z} (C : zx_ok zM_sd Z cX11_classOf 2 RX11 6 133) {r : Int32 × zx_S} (p1 : Int32) (s : zx_S) (hr : zx_rI zM_sd Z cX11_classOf 2 .int r.1 r.2) (h : zM_ValueBenchModel_classOf p1 s = some r) : zW zM_sd Z 2 0 [(0, .ref (zz_d Z 0)), (1, .int p1)] [] s := by
  unfold zM_ValueBenchModel_classOf at h
  refine zr_aload_n C dX11_classOf_0 (q := 1) rfl 0 rfl rfl ?_
  refine zr_iload_n C dX11_classOf_1 (q := 2) rfl 1 rfl rfl ?_
  obtain ⟨r1, s2, hc_2, h⟩ := zx_b2_so h
  refine zr_cvI (q := 5) C (As := [.int p1]) (k := 0) (rest := []) dX11_classOf_2 (zM_ValueBenchModel_isValue_met C.2.2.2.2.1 C.2.2.2.1 hc_2) zM_vX11_260 zM_o0 ⟨by decide, by decide⟩ rfl (Nat.le_of_ble_eq_true rfl) rfl rfl ?_
  refine zr_if_eq (tgt := 17) (q := 8) C dX11_classOf_5 h (by decide) rfl (fun h => ?_) (fun h => ?_)
  · skip
    refine zr_iconst C dX11_classOf_17 (q := 18) (v := (-1 : Int32)) (by decide) rfl ?_
    exact zr_retI dX11_classOf_18 h hr
  · skip
    refine zr_aload_n C dX11_classOf_8 (q := 9) rfl 0 rfl rfl ?_
    refine zr_get C dX11_classOf_9 (q := 12) zM_gX11_92_0 rfl ?_
    refine zr_iload_n C dX11_classOf_12 (q := 13) rfl 1 rfl rfl ?_
    obtain ⟨hin_13, h⟩ := zx_ck_so h
    refine zr_iald C dX11_classOf_13 (q := 14) zM_a28 hin_13 rfl ?_
    refine zr_goto (q := 18) C dX11_classOf_14 (by decide) ?_
    exact zr_retI dX11_classOf_18 h hr
theorem zM_ValueBenchModel_classOf_met {l : Launch} {D : va_G} {cz : ClassId × ClassId} {ad : Nat → Nat} (hS : zx_So zM_sd) (hi : zx_I zM_sd ad) {p1 : Int32} {s : zx_S} {v : Int32} {s1 : zx_S} (h : zM_ValueBenchModel_classOf p1 s = some (v, s1)) : zx_MI zM_sd l D cz ad yX11_classOf cX11_classOf 2 .int 6 133 [.ref (ad 0), .int p1] s v s1 := zx_metI hS hi (by decide +kernel) rfl (Nat.le_of_ble_eq_true rfl) (fun Z e1 e2 e3 e4 C hr => by subst e1 e2 e3 e4; exact zM_ValueBenchModel_classOf_w (r := (v, s1)) C p1 s hr h)
set_option maxRecDepth 100000 in
set_option maxHeartbeats 4000000 in
theorem zM_ValueBenchModel_read_w {Z : zx_Z} (C : zx_ok zM_sd Z cX11_read 3 RX11 5 112) {r : Int32 × zx_S} (p1 p2 : Int32) (s : zx_S) (hr : zx_rI zM_sd Z cX11_read 3 .int r.1 r.2) (h : zM_ValueBenchModel_read p1 p2 s = some r) : zW zM_sd Z 3 0 [(0, .ref (zz_d Z 0)), (1, .int p1), (2, .int p2)] [] s := by
  unfold zM_ValueBenchModel_read at h
  refine zr_aload_n C dX11_read_0 (q := 1) rfl 0 rfl rfl ?_
  refine zr_iload_n C dX11_read_1 (q := 2) rfl 1 rfl rfl ?_
  obtain ⟨r1, hc_2, h⟩ := zx_b1_so h
  refine zr_cvI (q := 5) C (As := [.int p1]) (k := 0) (rest := []) dX11_read_2 (zM_ValueBenchModel_isBlock_met C.2.2.2.2.1 C.2.2.2.1 hc_2) zM_vX11_127 zM_o0 ⟨by decide, by decide⟩ rfl (Nat.le_of_ble_eq_true rfl) rfl rfl ?_
  refine zr_if_ne (tgt := 10) (q := 8) C dX11_read_5 h (by decide) rfl (fun h => ?_) (fun h => ?_)
  · skip
    refine zr_aload_n C dX11_read_10 (q := 11) rfl 0 rfl rfl ?_
    obtain ⟨s2, hc_11, h⟩ := zx_b1_so h
    refine zr_cvV (q := 14) C (As := []) (k := 0) (rest := []) dX11_read_11 (zM_ValueBenchModel_make_met C.2.2.2.2.1 C.2.2.2.1 hc_11) zM_vX11_215 zM_o0 ⟨by decide, by decide⟩ rfl (Nat.le_of_ble_eq_true rfl) rfl rfl ?_
    refine zr_aload_n C dX11_read_14 (q := 15) rfl 0 rfl rfl ?_
    refine zr_get C dX11_read_15 (q := 18) zM_gX11_37_0 rfl ?_
    refine zr_iload_n C dX11_read_18 (q := 19) rfl 1 rfl rfl ?_
    obtain ⟨hin_19, h⟩ := zx_ck_so h
    refine zr_zald C dX11_read_19 (q := 20) zM_a10 hin_19 rfl ?_
    refine zr_if_eq (tgt := 41) (q := 23) C dX11_read_20 h (by decide) rfl (fun h => ?_) (fun h => ?_)
    · skip
      refine zr_iconst C dX11_read_41 (q := 42) (v := (-1 : Int32)) (by decide) rfl ?_
      exact zr_retI dX11_read_42 h hr
    · skip
      refine zr_aload_n C dX11_read_23 (q := 24) rfl 0 rfl rfl ?_
      refine zr_iload_n C dX11_read_24 (q := 25) rfl 1 rfl rfl ?_
      obtain ⟨r3, hc_25, h⟩ := zx_b1_so h
      refine zr_cvI (q := 28) C (As := [.int p1]) (k := 0) (rest := []) dX11_read_25 (zM_ValueBenchModel_howOf_met C.2.2.2.2.1 C.2.2.2.1 hc_25) zM_vX11_137 zM_o0 ⟨by decide, by decide⟩ rfl (Nat.le_of_ble_eq_true rfl) rfl rfl ?_
      refine zr_iconst C dX11_read_28 (q := 29) (v := (1 : Int32)) (by decide) rfl ?_
      refine zr_icmp_eq (tgt := 41) (q := 32) C dX11_read_29 h (by decide) rfl (fun h => ?_) (fun h => ?_)
      · skip
        refine zr_iconst C dX11_read_41 (q := 42) (v := (-1 : Int32)) (by decide) rfl ?_
        exact zr_retI dX11_read_42 h hr
      · skip
        refine zr_aload_n C dX11_read_32 (q := 33) rfl 0 rfl rfl ?_
        refine zr_iload_n C dX11_read_33 (q := 34) rfl 1 rfl rfl ?_
        refine zr_iload_n C dX11_read_34 (q := 35) rfl 2 rfl rfl ?_
        obtain ⟨r4, hc_35, h⟩ := zx_b1_so h
        refine zr_cvI (q := 38) C (As := [.int p1, .int p2]) (k := 0) (rest := []) dX11_read_35 (zM_ValueBenchModel_reads_met C.2.2.2.2.1 C.2.2.2.1 hc_35) zM_vX11_241 zM_o0 ⟨by decide, by decide⟩ rfl (Nat.le_of_ble_eq_true rfl) rfl rfl ?_
        refine zr_goto (q := 42) C dX11_read_38 (by decide) ?_
        exact zr_retI dX11_read_42 h hr
  · skip
    refine zr_iconst C dX11_read_8 (q := 9) (v := (-1 : Int32)) (by decide) rfl ?_
    exact zr_retI dX11_read_9 h hr
theorem zM_ValueBenchModel_read_met {l : Launch} {D : va_G} {cz : ClassId × ClassId} {ad : Nat → Nat} (hS : zx_So zM_sd) (hi : zx_I zM_sd ad) {p1 p2 : Int32} {s : zx_S} {v : Int32} {s1 : zx_S} (h : zM_ValueBenchModel_read p1 p2 s = some (v, s1)) : zx_MI zM_sd l D cz ad yX11_read cX11_read 3 .int 5 112 [.ref (ad 0), .int p1, .int p2] s v s1 := zx_metI hS hi (by decide +kernel) rfl (Nat.le_of_ble_eq_true rfl) (fun Z e1 e2 e3 e4 C hr => by subst e1 e2 e3 e4; exact zM_ValueBenchModel_read_w (r := (v, s1)) C p1 p2 s hr h)
set_option maxRecDepth 100000 in
set_option maxHeartbeats 4000000 in
theorem zM_ValueBenchModel_emits_L35_w {Z : zx_Z} (C : zx_ok zM_sd Z cX11_emits 7 RX11 5 112) {r : Int32 × zx_S} (v1 v2 v3 : Int32) (s : zx_S) {k72 : Int32 → Option (Int32 × zx_S)} (hr : zx_rI zM_sd Z cX11_emits 7 .int r.1 r.2) (h72 : ∀ (a0 : Int32), k72 a0 = some r → zW zM_sd Z 7 72 [(0, .ref (zz_d Z 0)), (1, .int v1), (3, .int v3), (5, .int a0)] [] s) : ∀ (n : Nat) (v4 : Int32) (v5 : Int32), zM_ValueBenchModel_emits_L35 v1 v2 v3 s k72 n v4 v5 = some r → zW zM_sd Z 7 35 [(0, .ref (zz_d Z 0)), (1, .int v1), (2, .int v2), (3, .int v3), (4, .int v4), (5, .int v5)] [] s := by
  intro n
  induction n with
  | zero => intro v4 v5 h; unfold zM_ValueBenchModel_emits_L35 at h; cases h
  | succ n ih =>
    intro v4 v5 h
    unfold zM_ValueBenchModel_emits_L35 at h
    refine zr_iload C dX11_emits_35 (q := 37) 5 rfl rfl ?_
    refine zr_aload_n C dX11_emits_37 (q := 38) rfl 0 rfl rfl ?_
    refine zr_get C dX11_emits_38 (q := 41) zM_gX11_22_0 rfl ?_
    refine zr_iload_n C dX11_emits_41 (q := 42) rfl 1 rfl rfl ?_
    obtain ⟨hin_42, h⟩ := zx_ck_so h
    refine zr_iald C dX11_emits_42 (q := 43) zM_a5 hin_42 rfl ?_
    refine zr_icmp_ge (tgt := 121) (q := 46) C dX11_emits_43 h (by decide) rfl (fun h => ?_) (fun h => ?_)
    · skip
      refine zr_iconst C dX11_emits_121 (q := 122) (v := (-1 : Int32)) (by decide) rfl ?_
      exact zr_retI dX11_emits_122 h hr
    · skip
      refine zr_aload_n C dX11_emits_46 (q := 47) rfl 0 rfl rfl ?_
      refine zr_get C dX11_emits_47 (q := 50) zM_gX11_7_0 rfl ?_
      refine zr_bipush C dX11_emits_50 (q := 52) (v := (100 : Int32)) (by decide) rfl ?_
      refine zr_iload_n C dX11_emits_52 (q := 53) rfl 1 rfl rfl ?_
      refine zr_imul C dX11_emits_53 (q := 54) rfl ?_
      refine zr_iload C dX11_emits_54 (q := 56) 5 rfl rfl ?_
      refine zr_iadd C dX11_emits_56 (q := 57) rfl ?_
      obtain ⟨hin_57, h⟩ := zx_ck_so h
      refine zr_iald C dX11_emits_57 (q := 58) zM_a1 hin_57 rfl ?_
      refine zr_bipush C dX11_emits_58 (q := 60) (v := (14 : Int32)) (by decide) rfl ?_
      refine zr_icmp_eq (tgt := 66) (q := 63) C dX11_emits_60 h (by decide) rfl (fun h => ?_) (fun h => ?_)
      · skip
        refine zr_iload C dX11_emits_66 (q := 68) 4 rfl rfl ?_
        refine zr_iload_n C dX11_emits_68 (q := 69) rfl 2 rfl rfl ?_
        refine zr_icmp_ne (tgt := 112) (q := 72) C dX11_emits_69 h (by decide) rfl (fun h => ?_) (fun h => ?_)
        · skip
          refine zr_iinc C dX11_emits_112 (q := 115) h (by decide) 4 rfl (by decide) (lw := fun v4_4 => [(4, .int v4_4), (0, .ref (zz_d Z 0)), (1, .int v1), (2, .int v2), (3, .int v3), (5, .int v5)]) (fun _ => rfl) rfl (fun v4_4 h => ?_)
          refine zr_iinc C dX11_emits_115 (q := 118) h (by decide) 5 rfl (by decide) (lw := fun v5_5 => [(5, .int v5_5), (4, .int v4_4), (0, .ref (zz_d Z 0)), (1, .int v1), (2, .int v2), (3, .int v3)]) (fun _ => rfl) rfl (fun v5_5 h => ?_)
          refine zr_goto (q := 35) C dX11_emits_118 (by decide) ?_
          exact zr_sub [2, 3, 4, 5, 1, 0] rfl (ih v4_4 v5_5 h)
        · skip
          exact zr_sub [0, 1, 3, 5] rfl (h72 v5 h)
      · skip
        refine zr_goto (q := 115) C dX11_emits_63 (by decide) ?_
        refine zr_iinc C dX11_emits_115 (q := 118) h (by decide) 5 rfl (by decide) (lw := fun v5_3 => [(5, .int v5_3), (0, .ref (zz_d Z 0)), (1, .int v1), (2, .int v2), (3, .int v3), (4, .int v4)]) (fun _ => rfl) rfl (fun v5_3 h => ?_)
        refine zr_goto (q := 35) C dX11_emits_118 (by decide) ?_
        exact zr_sub [1, 2, 3, 4, 5, 0] rfl (ih v4 v5_3 h)
set_option maxRecDepth 100000 in
set_option maxHeartbeats 4000000 in
theorem zM_ValueBenchModel_emits_w {Z : zx_Z} (C : zx_ok zM_sd Z cX11_emits 7 RX11 5 112) {r : Int32 × zx_S} (p1 p2 p3 : Int32) (s : zx_S) (hr : zx_rI zM_sd Z cX11_emits 7 .int r.1 r.2) (h : zM_ValueBenchModel_emits p1 p2 p3 s = some r) : zW zM_sd Z 7 0 [(0, .ref (zz_d Z 0)), (1, .int p1), (2, .int p2), (3, .int p3)] [] s := by
  unfold zM_ValueBenchModel_emits at h
  refine zr_aload_n C dX11_emits_0 (q := 1) rfl 0 rfl rfl ?_
  refine zr_iload_n C dX11_emits_1 (q := 2) rfl 1 rfl rfl ?_
  obtain ⟨r1, hc_2, h⟩ := zx_b1_so h
  refine zr_cvI (q := 5) C (As := [.int p1]) (k := 0) (rest := []) dX11_emits_2 (zM_ValueBenchModel_isBlock_met C.2.2.2.2.1 C.2.2.2.1 hc_2) zM_vX11_127 zM_o0 ⟨by decide, by decide⟩ rfl (Nat.le_of_ble_eq_true rfl) rfl rfl ?_
  refine zr_if_eq (tgt := 12) (q := 8) C dX11_emits_5 h (by decide) rfl (fun h => ?_) (fun h => ?_)
  · skip
    refine zr_iconst C dX11_emits_12 (q := 13) (v := (-1 : Int32)) (by decide) rfl ?_
    exact zr_retI dX11_emits_13 h hr
  · skip
    refine zr_iload_n C dX11_emits_8 (q := 9) rfl 2 rfl rfl ?_
    refine zr_if_ge (tgt := 14) (q := 12) C dX11_emits_9 h (by decide) rfl (fun h => ?_) (fun h => ?_)
    · skip
      refine zr_aload_n C dX11_emits_14 (q := 15) rfl 0 rfl rfl ?_
      obtain ⟨s2, hc_15, h⟩ := zx_b1_so h
      refine zr_cvV (q := 18) C (As := []) (k := 0) (rest := []) dX11_emits_15 (zM_ValueBenchModel_make_met C.2.2.2.2.1 C.2.2.2.1 hc_15) zM_vX11_215 zM_o0 ⟨by decide, by decide⟩ rfl (Nat.le_of_ble_eq_true rfl) rfl rfl ?_
      refine zr_aload_n C dX11_emits_18 (q := 19) rfl 0 rfl rfl ?_
      refine zr_get C dX11_emits_19 (q := 22) zM_gX11_37_0 rfl ?_
      refine zr_iload_n C dX11_emits_22 (q := 23) rfl 1 rfl rfl ?_
      obtain ⟨hin_23, h⟩ := zx_ck_so h
      refine zr_zald C dX11_emits_23 (q := 24) zM_a10 hin_23 rfl ?_
      refine zr_if_ne (tgt := 29) (q := 27) C dX11_emits_24 h (by decide) rfl (fun h => ?_) (fun h => ?_)
      · skip
        refine zr_iconst C dX11_emits_29 (q := 30) (v := (0 : Int32)) (by decide) rfl ?_
        refine zr_istore C dX11_emits_30 (q := 32) (by decide) (lv' := [(4, .int (0 : Int32)), (0, .ref (zz_d Z 0)), (1, .int p1), (2, .int p2), (3, .int p3)]) rfl rfl ?_
        refine zr_iconst C dX11_emits_32 (q := 33) (v := (0 : Int32)) (by decide) rfl ?_
        refine zr_istore C dX11_emits_33 (q := 35) (by decide) (lv' := [(5, .int (0 : Int32)), (4, .int (0 : Int32)), (0, .ref (zz_d Z 0)), (1, .int p1), (2, .int p2), (3, .int p3)]) rfl rfl ?_
        refine zr_sub [2, 3, 4, 5, 1, 0] rfl (zM_ValueBenchModel_emits_L35_w C p1 p2 p3 s2 hr (fun v5_6 h => ?_) 10000 (0 : Int32) (0 : Int32) h)
        · skip
          refine zr_aload_n C dX11_emits_72 (q := 73) rfl 0 rfl rfl ?_
          refine zr_iload_n C dX11_emits_73 (q := 74) rfl 1 rfl rfl ?_
          refine zr_iload C dX11_emits_74 (q := 76) 3 rfl rfl ?_
          refine zr_aload_n C dX11_emits_76 (q := 77) rfl 0 rfl rfl ?_
          refine zr_get C dX11_emits_77 (q := 80) zM_gX11_13_0 rfl ?_
          refine zr_bipush C dX11_emits_80 (q := 82) (v := (100 : Int32)) (by decide) rfl ?_
          refine zr_iload_n C dX11_emits_82 (q := 83) rfl 1 rfl rfl ?_
          refine zr_imul C dX11_emits_83 (q := 84) rfl ?_
          refine zr_iload C dX11_emits_84 (q := 86) 3 rfl rfl ?_
          refine zr_iadd C dX11_emits_86 (q := 87) rfl ?_
          obtain ⟨hin_87, h⟩ := zx_ck_so h
          refine zr_iald C dX11_emits_87 (q := 88) zM_a2 hin_87 rfl ?_
          obtain ⟨r7, s8, hc_88, h⟩ := zx_b2_so h
          refine zr_cvI (q := 91) C (As := [.int p1, .int v5_6, .int (s2 2 ((((100 : Int32) * p1) + v5_6)).toNatClampNeg)]) (k := 0) (rest := []) dX11_emits_88 (zM_ValueBenchModel_readAt_met C.2.2.2.2.1 C.2.2.2.1 hc_88) zM_vX11_254 zM_o0 ⟨by decide, by decide⟩ rfl (Nat.le_of_ble_eq_true rfl) rfl rfl ?_
          refine zr_istore C dX11_emits_91 (q := 93) (by decide) (lv' := [(6, .int r7), (0, .ref (zz_d Z 0)), (1, .int p1), (3, .int p3), (5, .int v5_6)]) rfl rfl ?_
          refine zr_iload_n C dX11_emits_93 (q := 94) rfl 3 rfl rfl ?_
          refine zr_if_eq (tgt := 109) (q := 97) C dX11_emits_94 h (by decide) rfl (fun h => ?_) (fun h => ?_)
          · skip
            refine zr_iload C dX11_emits_109 (q := 111) 0 rfl rfl ?_
            exact zr_retI dX11_emits_111 h hr
          · skip
            refine zr_aload_n C dX11_emits_97 (q := 98) rfl 1 rfl rfl ?_
            refine zr_iload C dX11_emits_98 (q := 100) 0 rfl rfl ?_
            refine zr_iload_n C dX11_emits_100 (q := 101) rfl 2 rfl rfl ?_
            refine zr_iload C dX11_emits_101 (q := 103) 4 rfl rfl ?_
            obtain ⟨r9, hc_103, h⟩ := zx_b1_so h
            refine zr_cvI (q := 106) C (As := [.int r7, .int p1, .int v5_6]) (k := 0) (rest := []) dX11_emits_103 (zM_ValueBenchModel_leader_met C.2.2.2.2.1 C.2.2.2.1 hc_103) zM_vX11_201 zM_o0 ⟨by decide, by decide⟩ rfl (Nat.le_of_ble_eq_true rfl) rfl rfl ?_
            refine zr_goto (q := 111) C dX11_emits_106 (by decide) ?_
            exact zr_retI dX11_emits_111 h hr
      · skip
        refine zr_iconst C dX11_emits_27 (q := 28) (v := (-1 : Int32)) (by decide) rfl ?_
        exact zr_retI dX11_emits_28 h hr
    · skip
      refine zr_iconst C dX11_emits_12 (q := 13) (v := (-1 : Int32)) (by decide) rfl ?_
      exact zr_retI dX11_emits_13 h hr
theorem zM_ValueBenchModel_emits_met {l : Launch} {D : va_G} {cz : ClassId × ClassId} {ad : Nat → Nat} (hS : zx_So zM_sd) (hi : zx_I zM_sd ad) {p1 p2 p3 : Int32} {s : zx_S} {v : Int32} {s1 : zx_S} (h : zM_ValueBenchModel_emits p1 p2 p3 s = some (v, s1)) : zx_MI zM_sd l D cz ad yX11_emits cX11_emits 7 .int 5 112 [.ref (ad 0), .int p1, .int p2, .int p3] s v s1 := zx_metI hS hi (by decide +kernel) rfl (Nat.le_of_ble_eq_true rfl) (fun Z e1 e2 e3 e4 C hr => by subst e1 e2 e3 e4; exact zM_ValueBenchModel_emits_w (r := (v, s1)) C p1 p2 p3 s hr h)
set_option maxRecDepth 100000 in
set_option maxHeartbeats 4000000 in
theorem zM_ValueBenchModel_count_L171_w {Z : zx_Z} (C : zx_ok zM_sd Z cX11_count 4 RX11 5 112) {r : Int32 × zx_S} (s : zx_S) {k204 : Int32 → Option (Int32 × zx_S)} (hr : zx_rI zM_sd Z cX11_count 4 .int r.1 r.2) (h204 : ∀ (a0 : Int32), k204 a0 = some r → zW zM_sd Z 4 204 [(2, .int a0)] [] s) : ∀ (n : Nat) (v2 : Int32) (v3 : Int32), zM_ValueBenchModel_count_L171 s k204 n v2 v3 = some r → zW zM_sd Z 4 171 [(0, .ref (zz_d Z 0)), (2, .int v2), (3, .int v3)] [] s := by
  intro n
  induction n with
  | zero => intro v2 v3 h; unfold zM_ValueBenchModel_count_L171 at h; cases h
  | succ n ih =>
    intro v2 v3 h
    unfold zM_ValueBenchModel_count_L171 at h
    refine zr_iload_n C dX11_count_171 (q := 172) rfl 2 rfl rfl ?_
    refine zr_aload_n C dX11_count_172 (q := 173) rfl 0 rfl rfl ?_
    refine zr_get C dX11_count_173 (q := 176) zM_gX11_155_0 rfl ?_
    refine zr_icmp_ge (tgt := 204) (q := 179) C dX11_count_176 h (by decide) rfl (fun h => ?_) (fun h => ?_)
    · skip
      exact zr_sub [1] rfl (h204 v2 h)
    · skip
      refine zr_iload_n C dX11_count_179 (q := 180) rfl 1 rfl rfl ?_
      refine zr_aload_n C dX11_count_180 (q := 181) rfl 0 rfl rfl ?_
      refine zr_get C dX11_count_181 (q := 184) zM_gX11_56_0 rfl ?_
      refine zr_iload_n C dX11_count_184 (q := 185) rfl 2 rfl rfl ?_
      obtain ⟨hin_185, h⟩ := zx_ck_so h
      refine zr_iald C dX11_count_185 (q := 186) zM_a16 hin_185 rfl ?_
      refine zr_bipush C dX11_count_186 (q := 188) (v := (15 : Int32)) (by decide) rfl ?_
      refine zr_icmp_ne (tgt := 195) (q := 191) C dX11_count_188 h (by decide) rfl (fun h => ?_) (fun h => ?_)
      · skip
        refine zr_iconst C dX11_count_195 (q := 196) (v := (0 : Int32)) (by decide) rfl ?_
        refine zr_iadd C dX11_count_196 (q := 197) rfl ?_
        refine zr_top h (fun v2_4 h => ?_)
        refine zr_istore_n C dX11_count_197 (q := 198) rfl (by decide) (lv' := [(2, .int v2_4), (0, .ref (zz_d Z 0)), (3, .int v3)]) rfl rfl ?_
        refine zr_iinc C dX11_count_198 (q := 201) h (by decide) 2 rfl (by decide) (lw := fun v3_5 => [(3, .int v3_5), (2, .int v2_4), (0, .ref (zz_d Z 0))]) (fun _ => rfl) rfl (fun v3_5 h => ?_)
        refine zr_goto (q := 171) C dX11_count_201 (by decide) ?_
        exact zr_sub [2, 1, 0] rfl (ih v2_4 v3_5 h)
      · skip
        refine zr_iconst C dX11_count_191 (q := 192) (v := (1 : Int32)) (by decide) rfl ?_
        refine zr_goto (q := 196) C dX11_count_192 (by decide) ?_
        refine zr_iadd C dX11_count_196 (q := 197) rfl ?_
        refine zr_top h (fun v2_2 h => ?_)
        refine zr_istore_n C dX11_count_197 (q := 198) rfl (by decide) (lv' := [(2, .int v2_2), (0, .ref (zz_d Z 0)), (3, .int v3)]) rfl rfl ?_
        refine zr_iinc C dX11_count_198 (q := 201) h (by decide) 2 rfl (by decide) (lw := fun v3_3 => [(3, .int v3_3), (2, .int v2_2), (0, .ref (zz_d Z 0))]) (fun _ => rfl) rfl (fun v3_3 h => ?_)
        refine zr_goto (q := 171) C dX11_count_201 (by decide) ?_
        exact zr_sub [2, 1, 0] rfl (ih v2_2 v3_3 h)
set_option maxRecDepth 100000 in
set_option maxHeartbeats 4000000 in
theorem zM_ValueBenchModel_count_L136_w {Z : zx_Z} (C : zx_ok zM_sd Z cX11_count 4 RX11 5 112) {r : Int32 × zx_S} (s : zx_S) {k167 : Int32 → Option (Int32 × zx_S)} (hr : zx_rI zM_sd Z cX11_count 4 .int r.1 r.2) (h167 : ∀ (a0 : Int32), k167 a0 = some r → zW zM_sd Z 4 167 [(2, .int a0)] [] s) : ∀ (n : Nat) (v2 : Int32) (v3 : Int32), zM_ValueBenchModel_count_L136 s k167 n v2 v3 = some r → zW zM_sd Z 4 136 [(0, .ref (zz_d Z 0)), (2, .int v2), (3, .int v3)] [] s := by
  intro n
  induction n with
  | zero => intro v2 v3 h; unfold zM_ValueBenchModel_count_L136 at h; cases h
  | succ n ih =>
    intro v2 v3 h
    unfold zM_ValueBenchModel_count_L136 at h
    refine zr_iload_n C dX11_count_136 (q := 137) rfl 2 rfl rfl ?_
    refine zr_aload_n C dX11_count_137 (q := 138) rfl 0 rfl rfl ?_
    refine zr_get C dX11_count_138 (q := 141) zM_gX11_155_0 rfl ?_
    refine zr_icmp_ge (tgt := 167) (q := 144) C dX11_count_141 h (by decide) rfl (fun h => ?_) (fun h => ?_)
    · skip
      exact zr_sub [1] rfl (h167 v2 h)
    · skip
      refine zr_iload_n C dX11_count_144 (q := 145) rfl 1 rfl rfl ?_
      refine zr_aload_n C dX11_count_145 (q := 146) rfl 0 rfl rfl ?_
      refine zr_get C dX11_count_146 (q := 149) zM_gX11_98_0 rfl ?_
      refine zr_iload_n C dX11_count_149 (q := 150) rfl 2 rfl rfl ?_
      obtain ⟨hin_150, h⟩ := zx_ck_so h
      refine zr_zald C dX11_count_150 (q := 151) zM_a30 hin_150 rfl ?_
      refine zr_if_eq (tgt := 158) (q := 154) C dX11_count_151 h (by decide) rfl (fun h => ?_) (fun h => ?_)
      · skip
        refine zr_iconst C dX11_count_158 (q := 159) (v := (0 : Int32)) (by decide) rfl ?_
        refine zr_iadd C dX11_count_159 (q := 160) rfl ?_
        refine zr_top h (fun v2_9 h => ?_)
        refine zr_istore_n C dX11_count_160 (q := 161) rfl (by decide) (lv' := [(2, .int v2_9), (0, .ref (zz_d Z 0)), (3, .int v3)]) rfl rfl ?_
        refine zr_iinc C dX11_count_161 (q := 164) h (by decide) 2 rfl (by decide) (lw := fun v3_10 => [(3, .int v3_10), (2, .int v2_9), (0, .ref (zz_d Z 0))]) (fun _ => rfl) rfl (fun v3_10 h => ?_)
        refine zr_goto (q := 136) C dX11_count_164 (by decide) ?_
        exact zr_sub [2, 1, 0] rfl (ih v2_9 v3_10 h)
      · skip
        refine zr_iconst C dX11_count_154 (q := 155) (v := (1 : Int32)) (by decide) rfl ?_
        refine zr_goto (q := 159) C dX11_count_155 (by decide) ?_
        refine zr_iadd C dX11_count_159 (q := 160) rfl ?_
        refine zr_top h (fun v2_7 h => ?_)
        refine zr_istore_n C dX11_count_160 (q := 161) rfl (by decide) (lv' := [(2, .int v2_7), (0, .ref (zz_d Z 0)), (3, .int v3)]) rfl rfl ?_
        refine zr_iinc C dX11_count_161 (q := 164) h (by decide) 2 rfl (by decide) (lw := fun v3_8 => [(3, .int v3_8), (2, .int v2_7), (0, .ref (zz_d Z 0))]) (fun _ => rfl) rfl (fun v3_8 h => ?_)
        refine zr_goto (q := 136) C dX11_count_164 (by decide) ?_
        exact zr_sub [2, 1, 0] rfl (ih v2_7 v3_8 h)
set_option maxRecDepth 100000 in
set_option maxHeartbeats 4000000 in
theorem zM_ValueBenchModel_count_L100_w {Z : zx_Z} (C : zx_ok zM_sd Z cX11_count 4 RX11 5 112) {r : Int32 × zx_S} (s : zx_S) {k132 : Int32 → Option (Int32 × zx_S)} (hr : zx_rI zM_sd Z cX11_count 4 .int r.1 r.2) (h132 : ∀ (a0 : Int32), k132 a0 = some r → zW zM_sd Z 4 132 [(2, .int a0)] [] s) : ∀ (n : Nat) (v2 : Int32) (v3 : Int32), zM_ValueBenchModel_count_L100 s k132 n v2 v3 = some r → zW zM_sd Z 4 100 [(0, .ref (zz_d Z 0)), (2, .int v2), (3, .int v3)] [] s := by
  intro n
  induction n with
  | zero => intro v2 v3 h; unfold zM_ValueBenchModel_count_L100 at h; cases h
  | succ n ih =>
    intro v2 v3 h
    unfold zM_ValueBenchModel_count_L100 at h
    refine zr_iload_n C dX11_count_100 (q := 101) rfl 2 rfl rfl ?_
    refine zr_aload_n C dX11_count_101 (q := 102) rfl 0 rfl rfl ?_
    refine zr_get C dX11_count_102 (q := 105) zM_gX11_155_0 rfl ?_
    refine zr_icmp_ge (tgt := 132) (q := 108) C dX11_count_105 h (by decide) rfl (fun h => ?_) (fun h => ?_)
    · skip
      exact zr_sub [1] rfl (h132 v2 h)
    · skip
      refine zr_iload_n C dX11_count_108 (q := 109) rfl 1 rfl rfl ?_
      refine zr_aload_n C dX11_count_109 (q := 110) rfl 0 rfl rfl ?_
      refine zr_get C dX11_count_110 (q := 113) zM_gX11_92_0 rfl ?_
      refine zr_iload_n C dX11_count_113 (q := 114) rfl 2 rfl rfl ?_
      obtain ⟨hin_114, h⟩ := zx_ck_so h
      refine zr_iald C dX11_count_114 (q := 115) zM_a28 hin_114 rfl ?_
      refine zr_iload_n C dX11_count_115 (q := 116) rfl 2 rfl rfl ?_
      refine zr_icmp_ne (tgt := 123) (q := 119) C dX11_count_116 h (by decide) rfl (fun h => ?_) (fun h => ?_)
      · skip
        refine zr_iconst C dX11_count_123 (q := 124) (v := (0 : Int32)) (by decide) rfl ?_
        refine zr_iadd C dX11_count_124 (q := 125) rfl ?_
        refine zr_top h (fun v2_14 h => ?_)
        refine zr_istore_n C dX11_count_125 (q := 126) rfl (by decide) (lv' := [(2, .int v2_14), (0, .ref (zz_d Z 0)), (3, .int v3)]) rfl rfl ?_
        refine zr_iinc C dX11_count_126 (q := 129) h (by decide) 2 rfl (by decide) (lw := fun v3_15 => [(3, .int v3_15), (2, .int v2_14), (0, .ref (zz_d Z 0))]) (fun _ => rfl) rfl (fun v3_15 h => ?_)
        refine zr_goto (q := 100) C dX11_count_129 (by decide) ?_
        exact zr_sub [2, 1, 0] rfl (ih v2_14 v3_15 h)
      · skip
        refine zr_iconst C dX11_count_119 (q := 120) (v := (1 : Int32)) (by decide) rfl ?_
        refine zr_goto (q := 124) C dX11_count_120 (by decide) ?_
        refine zr_iadd C dX11_count_124 (q := 125) rfl ?_
        refine zr_top h (fun v2_12 h => ?_)
        refine zr_istore_n C dX11_count_125 (q := 126) rfl (by decide) (lv' := [(2, .int v2_12), (0, .ref (zz_d Z 0)), (3, .int v3)]) rfl rfl ?_
        refine zr_iinc C dX11_count_126 (q := 129) h (by decide) 2 rfl (by decide) (lw := fun v3_13 => [(3, .int v3_13), (2, .int v2_12), (0, .ref (zz_d Z 0))]) (fun _ => rfl) rfl (fun v3_13 h => ?_)
        refine zr_goto (q := 100) C dX11_count_129 (by decide) ?_
        exact zr_sub [2, 1, 0] rfl (ih v2_12 v3_13 h)
set_option maxRecDepth 100000 in
set_option maxHeartbeats 4000000 in
theorem zM_ValueBenchModel_count_L60_w {Z : zx_Z} (C : zx_ok zM_sd Z cX11_count 4 RX11 5 112) {r : Int32 × zx_S} (s : zx_S) {k91 : Int32 → Option (Int32 × zx_S)} (hr : zx_rI zM_sd Z cX11_count 4 .int r.1 r.2) (h91 : ∀ (a0 : Int32), k91 a0 = some r → zW zM_sd Z 4 91 [(2, .int a0)] [] s) : ∀ (n : Nat) (v2 : Int32) (v3 : Int32), zM_ValueBenchModel_count_L60 s k91 n v2 v3 = some r → zW zM_sd Z 4 60 [(0, .ref (zz_d Z 0)), (2, .int v2), (3, .int v3)] [] s := by
  intro n
  induction n with
  | zero => intro v2 v3 h; unfold zM_ValueBenchModel_count_L60 at h; cases h
  | succ n ih =>
    intro v2 v3 h
    unfold zM_ValueBenchModel_count_L60 at h
    refine zr_iload_n C dX11_count_60 (q := 61) rfl 2 rfl rfl ?_
    refine zr_aload_n C dX11_count_61 (q := 62) rfl 0 rfl rfl ?_
    refine zr_get C dX11_count_62 (q := 65) zM_gX11_120_0 rfl ?_
    refine zr_icmp_ge (tgt := 91) (q := 68) C dX11_count_65 h (by decide) rfl (fun h => ?_) (fun h => ?_)
    · skip
      exact zr_sub [1] rfl (h91 v2 h)
    · skip
      refine zr_iload_n C dX11_count_68 (q := 69) rfl 1 rfl rfl ?_
      refine zr_aload_n C dX11_count_69 (q := 70) rfl 0 rfl rfl ?_
      refine zr_get C dX11_count_70 (q := 73) zM_gX11_37_0 rfl ?_
      refine zr_iload_n C dX11_count_73 (q := 74) rfl 2 rfl rfl ?_
      obtain ⟨hin_74, h⟩ := zx_ck_so h
      refine zr_zald C dX11_count_74 (q := 75) zM_a10 hin_74 rfl ?_
      refine zr_if_eq (tgt := 82) (q := 78) C dX11_count_75 h (by decide) rfl (fun h => ?_) (fun h => ?_)
      · skip
        refine zr_iconst C dX11_count_82 (q := 83) (v := (0 : Int32)) (by decide) rfl ?_
        refine zr_iadd C dX11_count_83 (q := 84) rfl ?_
        refine zr_top h (fun v2_19 h => ?_)
        refine zr_istore_n C dX11_count_84 (q := 85) rfl (by decide) (lv' := [(2, .int v2_19), (0, .ref (zz_d Z 0)), (3, .int v3)]) rfl rfl ?_
        refine zr_iinc C dX11_count_85 (q := 88) h (by decide) 2 rfl (by decide) (lw := fun v3_20 => [(3, .int v3_20), (2, .int v2_19), (0, .ref (zz_d Z 0))]) (fun _ => rfl) rfl (fun v3_20 h => ?_)
        refine zr_goto (q := 60) C dX11_count_88 (by decide) ?_
        exact zr_sub [2, 1, 0] rfl (ih v2_19 v3_20 h)
      · skip
        refine zr_iconst C dX11_count_78 (q := 79) (v := (1 : Int32)) (by decide) rfl ?_
        refine zr_goto (q := 83) C dX11_count_79 (by decide) ?_
        refine zr_iadd C dX11_count_83 (q := 84) rfl ?_
        refine zr_top h (fun v2_17 h => ?_)
        refine zr_istore_n C dX11_count_84 (q := 85) rfl (by decide) (lv' := [(2, .int v2_17), (0, .ref (zz_d Z 0)), (3, .int v3)]) rfl rfl ?_
        refine zr_iinc C dX11_count_85 (q := 88) h (by decide) 2 rfl (by decide) (lw := fun v3_18 => [(3, .int v3_18), (2, .int v2_17), (0, .ref (zz_d Z 0))]) (fun _ => rfl) rfl (fun v3_18 h => ?_)
        refine zr_goto (q := 60) C dX11_count_88 (by decide) ?_
        exact zr_sub [2, 1, 0] rfl (ih v2_17 v3_18 h)
set_option maxRecDepth 100000 in
set_option maxHeartbeats 4000000 in
theorem zM_ValueBenchModel_count_w {Z : zx_Z} (C : zx_ok zM_sd Z cX11_count 4 RX11 5 112) {r : Int32 × zx_S} (p1 : Int32) (s : zx_S) (hr : zx_rI zM_sd Z cX11_count 4 .int r.1 r.2) (h : zM_ValueBenchModel_count p1 s = some r) : zW zM_sd Z 4 0 [(0, .ref (zz_d Z 0)), (1, .int p1)] [] s := by
  unfold zM_ValueBenchModel_count at h
  refine zr_aload_n C dX11_count_0 (q := 1) rfl 0 rfl rfl ?_
  obtain ⟨s1, hc_1, h⟩ := zx_b1_so h
  refine zr_cvV (q := 4) C (As := []) (k := 0) (rest := []) dX11_count_1 (zM_ValueBenchModel_make_met C.2.2.2.2.1 C.2.2.2.1 hc_1) zM_vX11_215 zM_o0 ⟨by decide, by decide⟩ rfl (Nat.le_of_ble_eq_true rfl) rfl rfl ?_
  refine zr_iconst C dX11_count_4 (q := 5) (v := (0 : Int32)) (by decide) rfl ?_
  refine zr_istore_n C dX11_count_5 (q := 6) rfl (by decide) (lv' := [(2, .int (0 : Int32)), (0, .ref (zz_d Z 0)), (1, .int p1)]) rfl rfl ?_
  refine zr_iload_n C dX11_count_6 (q := 7) rfl 2 rfl rfl ?_
  by_cases e0 : p1 = (0 : Int32)
  · rw [if_pos e0] at h
    refine zr_tableIn (tgt := 48) (off := 41) C dX11_count_7 (by rw [e0]; decide) (by rw [e0]; decide) (by rw [e0] <;> exact rfl) (by decide) ?_
    refine zr_aload_n C dX11_count_48 (q := 49) rfl 1 rfl rfl ?_
    refine zr_get C dX11_count_49 (q := 52) zM_gX11_120_0 rfl ?_
    exact zr_retI dX11_count_52 h hr
  · rw [if_neg e0] at h
    by_cases e1 : p1 = (1 : Int32)
    · rw [if_pos e1] at h
      refine zr_tableIn (tgt := 53) (off := 46) C dX11_count_7 (by rw [e1]; decide) (by rw [e1]; decide) (by rw [e1] <;> exact rfl) (by decide) ?_
      refine zr_aload_n C dX11_count_53 (q := 54) rfl 1 rfl rfl ?_
      refine zr_get C dX11_count_54 (q := 57) zM_gX11_131_0 rfl ?_
      exact zr_retI dX11_count_57 h hr
    · rw [if_neg e1] at h
      by_cases e2 : p1 = (2 : Int32)
      · rw [if_pos e2] at h
        refine zr_tableIn (tgt := 58) (off := 51) C dX11_count_7 (by rw [e2]; decide) (by rw [e2]; decide) (by rw [e2] <;> exact rfl) (by decide) ?_
        refine zr_iconst C dX11_count_58 (q := 59) (v := (0 : Int32)) (by decide) rfl ?_
        refine zr_istore_n C dX11_count_59 (q := 60) rfl (by decide) (lv' := [(3, .int (0 : Int32)), (2, .int (0 : Int32)), (0, .ref (zz_d Z 0)), (1, .int p1)]) rfl rfl ?_
        refine zr_sub [2, 1, 0] rfl (zM_ValueBenchModel_count_L60_w C s1 hr (fun v2_21 h => ?_) 10000 (0 : Int32) (0 : Int32) h)
        · skip
          refine zr_iload_n C dX11_count_91 (q := 92) rfl 0 rfl rfl ?_
          exact zr_retI dX11_count_92 h hr
      · rw [if_neg e2] at h
        by_cases e3 : p1 = (3 : Int32)
        · rw [if_pos e3] at h
          refine zr_tableIn (tgt := 93) (off := 86) C dX11_count_7 (by rw [e3]; decide) (by rw [e3]; decide) (by rw [e3] <;> exact rfl) (by decide) ?_
          refine zr_aload_n C dX11_count_93 (q := 94) rfl 1 rfl rfl ?_
          refine zr_get C dX11_count_94 (q := 97) zM_gX11_155_0 rfl ?_
          exact zr_retI dX11_count_97 h hr
        · rw [if_neg e3] at h
          by_cases e4 : p1 = (4 : Int32)
          · rw [if_pos e4] at h
            refine zr_tableIn (tgt := 98) (off := 91) C dX11_count_7 (by rw [e4]; decide) (by rw [e4]; decide) (by rw [e4] <;> exact rfl) (by decide) ?_
            refine zr_iconst C dX11_count_98 (q := 99) (v := (0 : Int32)) (by decide) rfl ?_
            refine zr_istore_n C dX11_count_99 (q := 100) rfl (by decide) (lv' := [(3, .int (0 : Int32)), (2, .int (0 : Int32)), (0, .ref (zz_d Z 0)), (1, .int p1)]) rfl rfl ?_
            refine zr_sub [2, 1, 0] rfl (zM_ValueBenchModel_count_L100_w C s1 hr (fun v2_16 h => ?_) 10000 (0 : Int32) (0 : Int32) h)
            · skip
              refine zr_iload_n C dX11_count_132 (q := 133) rfl 0 rfl rfl ?_
              exact zr_retI dX11_count_133 h hr
          · rw [if_neg e4] at h
            by_cases e5 : p1 = (5 : Int32)
            · rw [if_pos e5] at h
              refine zr_tableIn (tgt := 134) (off := 127) C dX11_count_7 (by rw [e5]; decide) (by rw [e5]; decide) (by rw [e5] <;> exact rfl) (by decide) ?_
              refine zr_iconst C dX11_count_134 (q := 135) (v := (0 : Int32)) (by decide) rfl ?_
              refine zr_istore_n C dX11_count_135 (q := 136) rfl (by decide) (lv' := [(3, .int (0 : Int32)), (2, .int (0 : Int32)), (0, .ref (zz_d Z 0)), (1, .int p1)]) rfl rfl ?_
              refine zr_sub [2, 1, 0] rfl (zM_ValueBenchModel_count_L136_w C s1 hr (fun v2_11 h => ?_) 10000 (0 : Int32) (0 : Int32) h)
              · skip
                refine zr_iload_n C dX11_count_167 (q := 168) rfl 0 rfl rfl ?_
                exact zr_retI dX11_count_168 h hr
            · rw [if_neg e5] at h
              by_cases e6 : p1 = (6 : Int32)
              · rw [if_pos e6] at h
                refine zr_tableIn (tgt := 169) (off := 162) C dX11_count_7 (by rw [e6]; decide) (by rw [e6]; decide) (by rw [e6] <;> exact rfl) (by decide) ?_
                refine zr_iconst C dX11_count_169 (q := 170) (v := (0 : Int32)) (by decide) rfl ?_
                refine zr_istore_n C dX11_count_170 (q := 171) rfl (by decide) (lv' := [(3, .int (0 : Int32)), (2, .int (0 : Int32)), (0, .ref (zz_d Z 0)), (1, .int p1)]) rfl rfl ?_
                refine zr_sub [2, 1, 0] rfl (zM_ValueBenchModel_count_L171_w C s1 hr (fun v2_6 h => ?_) 10000 (0 : Int32) (0 : Int32) h)
                · skip
                  refine zr_iload_n C dX11_count_204 (q := 205) rfl 0 rfl rfl ?_
                  exact zr_retI dX11_count_205 h hr
              · rw [if_neg e6] at h
                refine zr_tableOut (tgt := 206) C dX11_count_7 (by have f0 := lv_neT (a := 0) e0 (by decide); have f1 := lv_neT (a := 1) e1 (by decide); have f2 := lv_neT (a := 2) e2 (by decide); have f3 := lv_neT (a := 3) e3 (by decide); have f4 := lv_neT (a := 4) e4 (by decide); have f5 := lv_neT (a := 5) e5 (by decide); have f6 := lv_neT (a := 6) e6 (by decide); omega) (by decide) ?_
                refine zr_iconst C dX11_count_206 (q := 207) (v := (-1 : Int32)) (by decide) rfl ?_
                exact zr_retI dX11_count_207 h hr
theorem zM_ValueBenchModel_count_met {l : Launch} {D : va_G} {cz : ClassId × ClassId} {ad : Nat → Nat} (hS : zx_So zM_sd) (hi : zx_I zM_sd ad) {p1 : Int32} {s : zx_S} {v : Int32} {s1 : zx_S} (h : zM_ValueBenchModel_count p1 s = some (v, s1)) : zx_MI zM_sd l D cz ad yX11_count cX11_count 4 .int 5 112 [.ref (ad 0), .int p1] s v s1 := zx_metI hS hi (by decide +kernel) rfl (Nat.le_of_ble_eq_true rfl) (fun Z e1 e2 e3 e4 C hr => by subst e1 e2 e3 e4; exact zM_ValueBenchModel_count_w (r := (v, s1)) C p1 s hr h)
