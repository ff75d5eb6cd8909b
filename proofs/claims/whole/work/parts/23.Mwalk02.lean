set_option maxRecDepth 100000 in
set_option maxHeartbeats 4000000 in
theorem zM_ValueBenchModel_dominance_L7_w {Z : zx_Z} (C : zx_ok zM_sd Z cX11_dominance 5 RX11 3 68) {r : zx_S} {k33 : zx_S → Option zx_S} (hr : zx_rV zM_sd Z cX11_dominance 5 r) (h33 : ∀ (s1 : zx_S), k33 s1 = some r → zW zM_sd Z 5 33 [(0, .ref (zz_d Z 0))] [] s1) : ∀ (n : Nat) (v1 : Int32) (s : zx_S), zM_ValueBenchModel_dominance_L7 k33 n v1 s = some r → zW zM_sd Z 5 7 [(0, .ref (zz_d Z 0)), (1, .int v1)] [] s := by
  intro n
  induction n with
  | zero => intro v1 s h; unfold zM_ValueBenchModel_dominance_L7 at h; cases h
  | succ n ih =>
    intro v1 s h
    unfold zM_ValueBenchModel_dominance_L7 at h
    refine zr_iload_n C dX11_dominance_7 (q := 8) rfl 1 rfl rfl ?_
    refine zr_aload_n C dX11_dominance_8 (q := 9) rfl 0 rfl rfl ?_
    refine zr_get C dX11_dominance_9 (q := 12) zM_gX11_120_0 rfl ?_
    refine zr_icmp_ge (tgt := 33) (q := 15) C dX11_dominance_12 h (by decide) rfl (fun h => ?_) (fun h => ?_)
    · skip
      exact zr_sub [0] rfl (h33 s h)
    · skip
      refine zr_aload_n C dX11_dominance_15 (q := 16) rfl 0 rfl rfl ?_
      refine zr_get C dX11_dominance_16 (q := 19) zM_gX11_37_0 rfl ?_
      refine zr_iload_n C dX11_dominance_19 (q := 20) rfl 1 rfl rfl ?_
      refine zr_aload_n C dX11_dominance_20 (q := 21) rfl 0 rfl rfl ?_
      refine zr_get C dX11_dominance_21 (q := 24) zM_gX11_41_0 rfl ?_
      refine zr_iload_n C dX11_dominance_24 (q := 25) rfl 1 rfl rfl ?_
      obtain ⟨hin_25, h⟩ := zx_ck_so h
      refine zr_zald C dX11_dominance_25 (q := 26) zM_a11 hin_25 rfl ?_
      refine zr_top h (fun x2 h => ?_)
      obtain ⟨hin_26, h⟩ := zx_ck_so h
      refine zr_zast C dX11_dominance_26 (q := 27) zM_a10 hin_26 rfl ?_
      refine zr_ls h (fun s3 h => ?_)
      refine zr_iinc C dX11_dominance_27 (q := 30) h (by decide) 1 rfl (by decide) (lw := fun v1_4 => [(1, .int v1_4), (0, .ref (zz_d Z 0))]) (fun _ => rfl) rfl (fun v1_4 h => ?_)
      refine zr_goto (q := 7) C dX11_dominance_30 (by decide) ?_
      exact zr_sub [1, 0] rfl (ih v1_4 s3 h)
set_option maxRecDepth 100000 in
set_option maxHeartbeats 4000000 in
theorem zM_ValueBenchModel_dominance_L50_w {Z : zx_Z} (C : zx_ok zM_sd Z cX11_dominance 5 RX11 3 68) {r : zx_S} (v1 : Int32) {k112 : zx_S → Option zx_S} (hr : zx_rV zM_sd Z cX11_dominance 5 r) (h112 : ∀ (s1 : zx_S), k112 s1 = some r → zW zM_sd Z 5 112 [(0, .ref (zz_d Z 0)), (1, .int v1)] [] s1) : ∀ (n : Nat) (v2 : Int32) (s : zx_S), zM_ValueBenchModel_dominance_L50 v1 k112 n v2 s = some r → zW zM_sd Z 5 50 [(0, .ref (zz_d Z 0)), (1, .int v1), (2, .int v2)] [] s := by
  intro n
  induction n with
  | zero => intro v2 s h; unfold zM_ValueBenchModel_dominance_L50 at h; cases h
  | succ n ih =>
    intro v2 s h
    unfold zM_ValueBenchModel_dominance_L50 at h
    refine zr_iload_n C dX11_dominance_50 (q := 51) rfl 2 rfl rfl ?_
    refine zr_aload_n C dX11_dominance_51 (q := 52) rfl 0 rfl rfl ?_
    refine zr_get C dX11_dominance_52 (q := 55) zM_gX11_120_0 rfl ?_
    refine zr_icmp_ge (tgt := 112) (q := 58) C dX11_dominance_55 h (by decide) rfl (fun h => ?_) (fun h => ?_)
    · skip
      exact zr_sub [0, 1] rfl (h112 s h)
    · skip
      refine zr_aload_n C dX11_dominance_58 (q := 59) rfl 0 rfl rfl ?_
      refine zr_get C dX11_dominance_59 (q := 62) zM_gX11_44_0 rfl ?_
      refine zr_bipush C dX11_dominance_62 (q := 64) (v := (16 : Int32)) (by decide) rfl ?_
      refine zr_iload_n C dX11_dominance_64 (q := 65) rfl 1 rfl rfl ?_
      refine zr_imul C dX11_dominance_65 (q := 66) rfl ?_
      refine zr_iload_n C dX11_dominance_66 (q := 67) rfl 2 rfl rfl ?_
      refine zr_iadd C dX11_dominance_67 (q := 68) rfl ?_
      refine zr_aload_n C dX11_dominance_68 (q := 69) rfl 0 rfl rfl ?_
      refine zr_get C dX11_dominance_69 (q := 72) zM_gX11_37_0 rfl ?_
      refine zr_iload_n C dX11_dominance_72 (q := 73) rfl 1 rfl rfl ?_
      obtain ⟨hin_73, h⟩ := zx_ck_so h
      refine zr_zald C dX11_dominance_73 (q := 74) zM_a10 hin_73 rfl ?_
      refine zr_if_eq (tgt := 104) (q := 77) C dX11_dominance_74 h (by decide) rfl (fun h => ?_) (fun h => ?_)
      · skip
        refine zr_iconst C dX11_dominance_104 (q := 105) (v := (0 : Int32)) (by decide) rfl ?_
        obtain ⟨hin_105, h⟩ := zx_ck_so h
        refine zr_zast C dX11_dominance_105 (q := 106) zM_a12 hin_105 rfl ?_
        refine zr_ls h (fun s15 h => ?_)
        refine zr_iinc C dX11_dominance_106 (q := 109) h (by decide) 2 rfl (by decide) (lw := fun v2_16 => [(2, .int v2_16), (0, .ref (zz_d Z 0)), (1, .int v1)]) (fun _ => rfl) rfl (fun v2_16 h => ?_)
        refine zr_goto (q := 50) C dX11_dominance_109 (by decide) ?_
        exact zr_sub [1, 2, 0] rfl (ih v2_16 s15 h)
      · skip
        refine zr_aload_n C dX11_dominance_77 (q := 78) rfl 0 rfl rfl ?_
        refine zr_get C dX11_dominance_78 (q := 81) zM_gX11_37_0 rfl ?_
        refine zr_iload_n C dX11_dominance_81 (q := 82) rfl 2 rfl rfl ?_
        obtain ⟨hin_82, h⟩ := zx_ck_so h
        refine zr_zald C dX11_dominance_82 (q := 83) zM_a10 hin_82 rfl ?_
        refine zr_if_eq (tgt := 104) (q := 86) C dX11_dominance_83 h (by decide) rfl (fun h => ?_) (fun h => ?_)
        · skip
          refine zr_iconst C dX11_dominance_104 (q := 105) (v := (0 : Int32)) (by decide) rfl ?_
          obtain ⟨hin_105, h⟩ := zx_ck_so h
          refine zr_zast C dX11_dominance_105 (q := 106) zM_a12 hin_105 rfl ?_
          refine zr_ls h (fun s13 h => ?_)
          refine zr_iinc C dX11_dominance_106 (q := 109) h (by decide) 2 rfl (by decide) (lw := fun v2_14 => [(2, .int v2_14), (0, .ref (zz_d Z 0)), (1, .int v1)]) (fun _ => rfl) rfl (fun v2_14 h => ?_)
          refine zr_goto (q := 50) C dX11_dominance_109 (by decide) ?_
          exact zr_sub [1, 2, 0] rfl (ih v2_14 s13 h)
        · skip
          refine zr_iload_n C dX11_dominance_86 (q := 87) rfl 1 rfl rfl ?_
          refine zr_iload_n C dX11_dominance_87 (q := 88) rfl 2 rfl rfl ?_
          refine zr_icmp_eq (tgt := 100) (q := 91) C dX11_dominance_88 h (by decide) rfl (fun h => ?_) (fun h => ?_)
          · skip
            refine zr_iconst C dX11_dominance_100 (q := 101) (v := (1 : Int32)) (by decide) rfl ?_
            refine zr_goto (q := 105) C dX11_dominance_101 (by decide) ?_
            obtain ⟨hin_105, h⟩ := zx_ck_so h
            refine zr_zast C dX11_dominance_105 (q := 106) zM_a12 hin_105 rfl ?_
            refine zr_ls h (fun s11 h => ?_)
            refine zr_iinc C dX11_dominance_106 (q := 109) h (by decide) 2 rfl (by decide) (lw := fun v2_12 => [(2, .int v2_12), (0, .ref (zz_d Z 0)), (1, .int v1)]) (fun _ => rfl) rfl (fun v2_12 h => ?_)
            refine zr_goto (q := 50) C dX11_dominance_109 (by decide) ?_
            exact zr_sub [1, 2, 0] rfl (ih v2_12 s11 h)
          · skip
            refine zr_aload_n C dX11_dominance_91 (q := 92) rfl 0 rfl rfl ?_
            refine zr_get C dX11_dominance_92 (q := 95) zM_gX11_41_0 rfl ?_
            refine zr_iload_n C dX11_dominance_95 (q := 96) rfl 2 rfl rfl ?_
            obtain ⟨hin_96, h⟩ := zx_ck_so h
            refine zr_zald C dX11_dominance_96 (q := 97) zM_a11 hin_96 rfl ?_
            refine zr_if_ne (tgt := 104) (q := 100) C dX11_dominance_97 h (by decide) rfl (fun h => ?_) (fun h => ?_)
            · skip
              refine zr_iconst C dX11_dominance_104 (q := 105) (v := (0 : Int32)) (by decide) rfl ?_
              obtain ⟨hin_105, h⟩ := zx_ck_so h
              refine zr_zast C dX11_dominance_105 (q := 106) zM_a12 hin_105 rfl ?_
              refine zr_ls h (fun s9 h => ?_)
              refine zr_iinc C dX11_dominance_106 (q := 109) h (by decide) 2 rfl (by decide) (lw := fun v2_10 => [(2, .int v2_10), (0, .ref (zz_d Z 0)), (1, .int v1)]) (fun _ => rfl) rfl (fun v2_10 h => ?_)
              refine zr_goto (q := 50) C dX11_dominance_109 (by decide) ?_
              exact zr_sub [1, 2, 0] rfl (ih v2_10 s9 h)
            · skip
              refine zr_iconst C dX11_dominance_100 (q := 101) (v := (1 : Int32)) (by decide) rfl ?_
              refine zr_goto (q := 105) C dX11_dominance_101 (by decide) ?_
              obtain ⟨hin_105, h⟩ := zx_ck_so h
              refine zr_zast C dX11_dominance_105 (q := 106) zM_a12 hin_105 rfl ?_
              refine zr_ls h (fun s7 h => ?_)
              refine zr_iinc C dX11_dominance_106 (q := 109) h (by decide) 2 rfl (by decide) (lw := fun v2_8 => [(2, .int v2_8), (0, .ref (zz_d Z 0)), (1, .int v1)]) (fun _ => rfl) rfl (fun v2_8 h => ?_)
              refine zr_goto (q := 50) C dX11_dominance_109 (by decide) ?_
              exact zr_sub [1, 2, 0] rfl (ih v2_8 s7 h)
set_option maxRecDepth 100000 in
set_option maxHeartbeats 4000000 in
theorem zM_ValueBenchModel_dominance_L35_w {Z : zx_Z} (C : zx_ok zM_sd Z cX11_dominance 5 RX11 3 68) {r : zx_S} {k118 : zx_S → Option zx_S} (hr : zx_rV zM_sd Z cX11_dominance 5 r) (h118 : ∀ (s1 : zx_S), k118 s1 = some r → zW zM_sd Z 5 118 [(0, .ref (zz_d Z 0))] [] s1) : ∀ (n : Nat) (v1 : Int32) (s : zx_S), zM_ValueBenchModel_dominance_L35 k118 n v1 s = some r → zW zM_sd Z 5 35 [(0, .ref (zz_d Z 0)), (1, .int v1)] [] s := by
  intro n
  induction n with
  | zero => intro v1 s h; unfold zM_ValueBenchModel_dominance_L35 at h; cases h
  | succ n ih =>
    intro v1 s h
    unfold zM_ValueBenchModel_dominance_L35 at h
    refine zr_iload_n C dX11_dominance_35 (q := 36) rfl 1 rfl rfl ?_
    refine zr_aload_n C dX11_dominance_36 (q := 37) rfl 0 rfl rfl ?_
    refine zr_get C dX11_dominance_37 (q := 40) zM_gX11_120_0 rfl ?_
    refine zr_icmp_ge (tgt := 118) (q := 43) C dX11_dominance_40 h (by decide) rfl (fun h => ?_) (fun h => ?_)
    · skip
      exact zr_sub [0] rfl (h118 s h)
    · skip
      refine zr_aload_n C dX11_dominance_43 (q := 44) rfl 0 rfl rfl ?_
      refine zr_iload_n C dX11_dominance_44 (q := 45) rfl 1 rfl rfl ?_
      obtain ⟨s6, hc_45, h⟩ := zx_b1_so h
      refine zr_cvV (q := 48) C (As := [.int v1]) (k := 0) (rest := []) dX11_dominance_45 (zM_ValueBenchModel_meet_met C.2.2.2.2.1 C.2.2.2.1 hc_45) zM_vX11_145 zM_o0 ⟨by decide, by decide⟩ rfl (Nat.le_of_ble_eq_true rfl) rfl rfl ?_
      refine zr_iconst C dX11_dominance_48 (q := 49) (v := (0 : Int32)) (by decide) rfl ?_
      refine zr_istore_n C dX11_dominance_49 (q := 50) rfl (by decide) (lv' := [(2, .int (0 : Int32)), (0, .ref (zz_d Z 0)), (1, .int v1)]) rfl rfl ?_
      refine zr_sub [1, 2, 0] rfl (zM_ValueBenchModel_dominance_L50_w C v1 hr (fun s17 h => ?_) 10000 (0 : Int32) s6 h)
      · skip
        refine zr_iinc C dX11_dominance_112 (q := 115) h (by decide) 1 rfl (by decide) (lw := fun v1_18 => [(1, .int v1_18), (0, .ref (zz_d Z 0))]) (fun _ => rfl) rfl (fun v1_18 h => ?_)
        refine zr_goto (q := 35) C dX11_dominance_115 (by decide) ?_
        exact zr_sub [1, 0] rfl (ih v1_18 s17 h)
set_option maxRecDepth 100000 in
set_option maxHeartbeats 4000000 in
theorem zM_ValueBenchModel_dominance_L167_w {Z : zx_Z} (C : zx_ok zM_sd Z cX11_dominance 5 RX11 3 68) {r : zx_S} (v1 v2 : Int32) (s : zx_S) {k218 : Int32 → Option zx_S} (hr : zx_rV zM_sd Z cX11_dominance 5 r) (h218 : ∀ (a0 : Int32), k218 a0 = some r → zW zM_sd Z 5 218 [(0, .ref (zz_d Z 0)), (1, .int v1), (2, .int v2), (3, .int a0)] [] s) : ∀ (n : Nat) (v3 : Int32) (v4 : Int32), zM_ValueBenchModel_dominance_L167 v1 v2 s k218 n v3 v4 = some r → zW zM_sd Z 5 167 [(0, .ref (zz_d Z 0)), (1, .int v1), (2, .int v2), (3, .int v3), (4, .int v4)] [] s := by
  intro n
  induction n with
  | zero => intro v3 v4 h; unfold zM_ValueBenchModel_dominance_L167 at h; cases h
  | succ n ih =>
    intro v3 v4 h
    unfold zM_ValueBenchModel_dominance_L167 at h
    refine zr_iload C dX11_dominance_167 (q := 169) 4 rfl rfl ?_
    refine zr_aload_n C dX11_dominance_169 (q := 170) rfl 0 rfl rfl ?_
    refine zr_get C dX11_dominance_170 (q := 173) zM_gX11_120_0 rfl ?_
    refine zr_icmp_ge (tgt := 218) (q := 176) C dX11_dominance_173 h (by decide) rfl (fun h => ?_) (fun h => ?_)
    · skip
      exact zr_sub [0, 1, 2, 3] rfl (h218 v3 h)
    · skip
      refine zr_iload_n C dX11_dominance_176 (q := 177) rfl 3 rfl rfl ?_
      refine zr_if_eq (tgt := 210) (q := 180) C dX11_dominance_177 h (by decide) rfl (fun h => ?_) (fun h => ?_)
      · skip
        refine zr_iconst C dX11_dominance_210 (q := 211) (v := (0 : Int32)) (by decide) rfl ?_
        refine zr_istore_n C dX11_dominance_211 (q := 212) rfl (by decide) (lv' := [(3, .int (0 : Int32)), (0, .ref (zz_d Z 0)), (1, .int v1), (2, .int v2), (4, .int v4)]) rfl rfl ?_
        refine zr_iinc C dX11_dominance_212 (q := 215) h (by decide) 4 rfl (by decide) (lw := fun v4_29 => [(4, .int v4_29), (3, .int (0 : Int32)), (0, .ref (zz_d Z 0)), (1, .int v1), (2, .int v2)]) (fun _ => rfl) rfl (fun v4_29 h => ?_)
        refine zr_goto (q := 167) C dX11_dominance_215 (by decide) ?_
        exact zr_sub [2, 3, 4, 1, 0] rfl (ih (0 : Int32) v4_29 h)
      · skip
        refine zr_iload C dX11_dominance_180 (q := 182) 4 rfl rfl ?_
        refine zr_iload_n C dX11_dominance_182 (q := 183) rfl 1 rfl rfl ?_
        refine zr_icmp_eq (tgt := 206) (q := 186) C dX11_dominance_183 h (by decide) rfl (fun h => ?_) (fun h => ?_)
        · skip
          refine zr_iconst C dX11_dominance_206 (q := 207) (v := (1 : Int32)) (by decide) rfl ?_
          refine zr_goto (q := 211) C dX11_dominance_207 (by decide) ?_
          refine zr_istore_n C dX11_dominance_211 (q := 212) rfl (by decide) (lv' := [(3, .int (1 : Int32)), (0, .ref (zz_d Z 0)), (1, .int v1), (2, .int v2), (4, .int v4)]) rfl rfl ?_
          refine zr_iinc C dX11_dominance_212 (q := 215) h (by decide) 4 rfl (by decide) (lw := fun v4_28 => [(4, .int v4_28), (3, .int (1 : Int32)), (0, .ref (zz_d Z 0)), (1, .int v1), (2, .int v2)]) (fun _ => rfl) rfl (fun v4_28 h => ?_)
          refine zr_goto (q := 167) C dX11_dominance_215 (by decide) ?_
          exact zr_sub [2, 3, 4, 1, 0] rfl (ih (1 : Int32) v4_28 h)
        · skip
          refine zr_aload_n C dX11_dominance_186 (q := 187) rfl 0 rfl rfl ?_
          refine zr_iload C dX11_dominance_187 (q := 189) 4 rfl rfl ?_
          refine zr_iload_n C dX11_dominance_189 (q := 190) rfl 1 rfl rfl ?_
          obtain ⟨r23, hc_190, h⟩ := zx_b1_so h
          refine zr_cvI (q := 193) C (As := [.int v4, .int v1]) (k := 0) (rest := []) dX11_dominance_190 (zM_ValueBenchModel_dominates1_met C.2.2.2.2.1 C.2.2.2.1 hc_190) zM_vX11_149 zM_o0 ⟨by decide, by decide⟩ rfl (Nat.le_of_ble_eq_true rfl) rfl rfl ?_
          refine zr_if_eq (tgt := 206) (q := 196) C dX11_dominance_193 h (by decide) rfl (fun h => ?_) (fun h => ?_)
          · skip
            refine zr_iconst C dX11_dominance_206 (q := 207) (v := (1 : Int32)) (by decide) rfl ?_
            refine zr_goto (q := 211) C dX11_dominance_207 (by decide) ?_
            refine zr_istore_n C dX11_dominance_211 (q := 212) rfl (by decide) (lv' := [(3, .int (1 : Int32)), (0, .ref (zz_d Z 0)), (1, .int v1), (2, .int v2), (4, .int v4)]) rfl rfl ?_
            refine zr_iinc C dX11_dominance_212 (q := 215) h (by decide) 4 rfl (by decide) (lw := fun v4_27 => [(4, .int v4_27), (3, .int (1 : Int32)), (0, .ref (zz_d Z 0)), (1, .int v1), (2, .int v2)]) (fun _ => rfl) rfl (fun v4_27 h => ?_)
            refine zr_goto (q := 167) C dX11_dominance_215 (by decide) ?_
            exact zr_sub [2, 3, 4, 1, 0] rfl (ih (1 : Int32) v4_27 h)
          · skip
            refine zr_aload_n C dX11_dominance_196 (q := 197) rfl 0 rfl rfl ?_
            refine zr_iload C dX11_dominance_197 (q := 199) 4 rfl rfl ?_
            refine zr_iload_n C dX11_dominance_199 (q := 200) rfl 2 rfl rfl ?_
            obtain ⟨r24, hc_200, h⟩ := zx_b1_so h
            refine zr_cvI (q := 203) C (As := [.int v4, .int v2]) (k := 0) (rest := []) dX11_dominance_200 (zM_ValueBenchModel_dominates1_met C.2.2.2.2.1 C.2.2.2.1 hc_200) zM_vX11_149 zM_o0 ⟨by decide, by decide⟩ rfl (Nat.le_of_ble_eq_true rfl) rfl rfl ?_
            refine zr_if_eq (tgt := 210) (q := 206) C dX11_dominance_203 h (by decide) rfl (fun h => ?_) (fun h => ?_)
            · skip
              refine zr_iconst C dX11_dominance_210 (q := 211) (v := (0 : Int32)) (by decide) rfl ?_
              refine zr_istore_n C dX11_dominance_211 (q := 212) rfl (by decide) (lv' := [(3, .int (0 : Int32)), (0, .ref (zz_d Z 0)), (1, .int v1), (2, .int v2), (4, .int v4)]) rfl rfl ?_
              refine zr_iinc C dX11_dominance_212 (q := 215) h (by decide) 4 rfl (by decide) (lw := fun v4_26 => [(4, .int v4_26), (3, .int (0 : Int32)), (0, .ref (zz_d Z 0)), (1, .int v1), (2, .int v2)]) (fun _ => rfl) rfl (fun v4_26 h => ?_)
              refine zr_goto (q := 167) C dX11_dominance_215 (by decide) ?_
              exact zr_sub [2, 3, 4, 1, 0] rfl (ih (0 : Int32) v4_26 h)
            · skip
              refine zr_iconst C dX11_dominance_206 (q := 207) (v := (1 : Int32)) (by decide) rfl ?_
              refine zr_goto (q := 211) C dX11_dominance_207 (by decide) ?_
              refine zr_istore_n C dX11_dominance_211 (q := 212) rfl (by decide) (lv' := [(3, .int (1 : Int32)), (0, .ref (zz_d Z 0)), (1, .int v1), (2, .int v2), (4, .int v4)]) rfl rfl ?_
              refine zr_iinc C dX11_dominance_212 (q := 215) h (by decide) 4 rfl (by decide) (lw := fun v4_25 => [(4, .int v4_25), (3, .int (1 : Int32)), (0, .ref (zz_d Z 0)), (1, .int v1), (2, .int v2)]) (fun _ => rfl) rfl (fun v4_25 h => ?_)
              refine zr_goto (q := 167) C dX11_dominance_215 (by decide) ?_
              exact zr_sub [2, 3, 4, 1, 0] rfl (ih (1 : Int32) v4_25 h)
set_option maxRecDepth 100000 in
set_option maxHeartbeats 4000000 in
theorem zM_ValueBenchModel_dominance_L137_w {Z : zx_Z} (C : zx_ok zM_sd Z cX11_dominance 5 RX11 3 68) {r : zx_S} (v1 : Int32) {k244 : zx_S → Option zx_S} (hr : zx_rV zM_sd Z cX11_dominance 5 r) (h244 : ∀ (s1 : zx_S), k244 s1 = some r → zW zM_sd Z 5 244 [(0, .ref (zz_d Z 0)), (1, .int v1)] [] s1) : ∀ (n : Nat) (v2 : Int32) (s : zx_S), zM_ValueBenchModel_dominance_L137 v1 k244 n v2 s = some r → zW zM_sd Z 5 137 [(0, .ref (zz_d Z 0)), (1, .int v1), (2, .int v2)] [] s := by
  intro n
  induction n with
  | zero => intro v2 s h; unfold zM_ValueBenchModel_dominance_L137 at h; cases h
  | succ n ih =>
    intro v2 s h
    unfold zM_ValueBenchModel_dominance_L137 at h
    refine zr_iload_n C dX11_dominance_137 (q := 138) rfl 2 rfl rfl ?_
    refine zr_aload_n C dX11_dominance_138 (q := 139) rfl 0 rfl rfl ?_
    refine zr_get C dX11_dominance_139 (q := 142) zM_gX11_120_0 rfl ?_
    refine zr_icmp_ge (tgt := 244) (q := 145) C dX11_dominance_142 h (by decide) rfl (fun h => ?_) (fun h => ?_)
    · skip
      exact zr_sub [0, 1] rfl (h244 s h)
    · skip
      refine zr_iload_n C dX11_dominance_145 (q := 146) rfl 2 rfl rfl ?_
      refine zr_iload_n C dX11_dominance_146 (q := 147) rfl 1 rfl rfl ?_
      refine zr_icmp_eq (tgt := 238) (q := 150) C dX11_dominance_147 h (by decide) rfl (fun h => ?_) (fun h => ?_)
      · skip
        refine zr_iinc C dX11_dominance_238 (q := 241) h (by decide) 2 rfl (by decide) (lw := fun v2_36 => [(2, .int v2_36), (0, .ref (zz_d Z 0)), (1, .int v1)]) (fun _ => rfl) rfl (fun v2_36 h => ?_)
        refine zr_goto (q := 137) C dX11_dominance_241 (by decide) ?_
        exact zr_sub [1, 2, 0] rfl (ih v2_36 s h)
      · skip
        refine zr_aload_n C dX11_dominance_150 (q := 151) rfl 0 rfl rfl ?_
        refine zr_iload_n C dX11_dominance_151 (q := 152) rfl 2 rfl rfl ?_
        refine zr_iload_n C dX11_dominance_152 (q := 153) rfl 1 rfl rfl ?_
        obtain ⟨r21, hc_153, h⟩ := zx_b1_so h
        refine zr_cvI (q := 156) C (As := [.int v2, .int v1]) (k := 0) (rest := []) dX11_dominance_153 (zM_ValueBenchModel_dominates1_met C.2.2.2.2.1 C.2.2.2.1 hc_153) zM_vX11_149 zM_o0 ⟨by decide, by decide⟩ rfl (Nat.le_of_ble_eq_true rfl) rfl rfl ?_
        refine zr_if_ne (tgt := 162) (q := 159) C dX11_dominance_156 h (by decide) rfl (fun h => ?_) (fun h => ?_)
        · skip
          refine zr_iconst C dX11_dominance_162 (q := 163) (v := (1 : Int32)) (by decide) rfl ?_
          refine zr_istore_n C dX11_dominance_163 (q := 164) rfl (by decide) (lv' := [(3, .int (1 : Int32)), (0, .ref (zz_d Z 0)), (1, .int v1), (2, .int v2)]) rfl rfl ?_
          refine zr_iconst C dX11_dominance_164 (q := 165) (v := (0 : Int32)) (by decide) rfl ?_
          refine zr_istore C dX11_dominance_165 (q := 167) (by decide) (lv' := [(4, .int (0 : Int32)), (3, .int (1 : Int32)), (0, .ref (zz_d Z 0)), (1, .int v1), (2, .int v2)]) rfl rfl ?_
          refine zr_sub [2, 3, 4, 1, 0] rfl (zM_ValueBenchModel_dominance_L167_w C v1 v2 s hr (fun v3_30 h => ?_) 10000 (1 : Int32) (0 : Int32) h)
          · skip
            refine zr_aload_n C dX11_dominance_218 (q := 219) rfl 0 rfl rfl ?_
            refine zr_get C dX11_dominance_219 (q := 222) zM_gX11_47_0 rfl ?_
            refine zr_iload_n C dX11_dominance_222 (q := 223) rfl 1 rfl rfl ?_
            refine zr_iload_n C dX11_dominance_223 (q := 224) rfl 3 rfl rfl ?_
            refine zr_if_eq (tgt := 231) (q := 227) C dX11_dominance_224 h (by decide) rfl (fun h => ?_) (fun h => ?_)
            · skip
              refine zr_aload_n C dX11_dominance_231 (q := 232) rfl 0 rfl rfl ?_
              refine zr_get C dX11_dominance_232 (q := 235) zM_gX11_47_0 rfl ?_
              refine zr_iload_n C dX11_dominance_235 (q := 236) rfl 1 rfl rfl ?_
              obtain ⟨hin_236, h⟩ := zx_ck_so h
              refine zr_iald C dX11_dominance_236 (q := 237) zM_a13 hin_236 rfl ?_
              refine zr_top h (fun x33 h => ?_)
              obtain ⟨hin_237, h⟩ := zx_ck_so h
              refine zr_iast C dX11_dominance_237 (q := 238) zM_a13 hin_237 rfl ?_
              refine zr_ls h (fun s34 h => ?_)
              refine zr_iinc C dX11_dominance_238 (q := 241) h (by decide) 2 rfl (by decide) (lw := fun v2_35 => [(2, .int v2_35), (0, .ref (zz_d Z 0)), (1, .int v1), (3, .int v3_30)]) (fun _ => rfl) rfl (fun v2_35 h => ?_)
              refine zr_goto (q := 137) C dX11_dominance_241 (by decide) ?_
              exact zr_sub [1, 2, 0] rfl (ih v2_35 s34 h)
            · skip
              refine zr_iload_n C dX11_dominance_227 (q := 228) rfl 2 rfl rfl ?_
              refine zr_goto (q := 237) C dX11_dominance_228 (by decide) ?_
              obtain ⟨hin_237, h⟩ := zx_ck_so h
              refine zr_iast C dX11_dominance_237 (q := 238) zM_a13 hin_237 rfl ?_
              refine zr_ls h (fun s31 h => ?_)
              refine zr_iinc C dX11_dominance_238 (q := 241) h (by decide) 2 rfl (by decide) (lw := fun v2_32 => [(2, .int v2_32), (0, .ref (zz_d Z 0)), (1, .int v1), (3, .int v3_30)]) (fun _ => rfl) rfl (fun v2_32 h => ?_)
              refine zr_goto (q := 137) C dX11_dominance_241 (by decide) ?_
              exact zr_sub [1, 2, 0] rfl (ih v2_32 s31 h)
        · skip
          refine zr_goto (q := 238) C dX11_dominance_159 (by decide) ?_
          refine zr_iinc C dX11_dominance_238 (q := 241) h (by decide) 2 rfl (by decide) (lw := fun v2_22 => [(2, .int v2_22), (0, .ref (zz_d Z 0)), (1, .int v1)]) (fun _ => rfl) rfl (fun v2_22 h => ?_)
          refine zr_goto (q := 137) C dX11_dominance_241 (by decide) ?_
          exact zr_sub [1, 2, 0] rfl (ih v2_22 s h)
set_option maxRecDepth 100000 in
set_option maxHeartbeats 4000000 in
theorem zM_ValueBenchModel_dominance_L259_w {Z : zx_Z} (C : zx_ok zM_sd Z cX11_dominance 5 RX11 3 68) {r : zx_S} (v1 v2 : Int32) (s : zx_S) {k314 : Int32 → Option zx_S} (hr : zx_rV zM_sd Z cX11_dominance 5 r) (h314 : ∀ (a0 : Int32), k314 a0 = some r → zW zM_sd Z 5 314 [(0, .ref (zz_d Z 0)), (1, .int v1), (2, .int v2), (3, .int a0)] [] s) : ∀ (n : Nat) (v3 : Int32) (v4 : Int32), zM_ValueBenchModel_dominance_L259 v1 v2 s k314 n v3 v4 = some r → zW zM_sd Z 5 259 [(0, .ref (zz_d Z 0)), (1, .int v1), (2, .int v2), (3, .int v3), (4, .int v4)] [] s := by
  intro n
  induction n with
  | zero => intro v3 v4 h; unfold zM_ValueBenchModel_dominance_L259 at h; cases h
  | succ n ih =>
    intro v3 v4 h
    unfold zM_ValueBenchModel_dominance_L259 at h
    refine zr_iload C dX11_dominance_259 (q := 261) 4 rfl rfl ?_
    refine zr_aload_n C dX11_dominance_261 (q := 262) rfl 0 rfl rfl ?_
    refine zr_get C dX11_dominance_262 (q := 265) zM_gX11_120_0 rfl ?_
    refine zr_icmp_ge (tgt := 314) (q := 268) C dX11_dominance_265 h (by decide) rfl (fun h => ?_) (fun h => ?_)
    · skip
      exact zr_sub [0, 1, 2, 3] rfl (h314 v3 h)
    · skip
      refine zr_iload_n C dX11_dominance_268 (q := 269) rfl 3 rfl rfl ?_
      refine zr_if_ne (tgt := 302) (q := 272) C dX11_dominance_269 h (by decide) rfl (fun h => ?_) (fun h => ?_)
      · skip
        refine zr_iconst C dX11_dominance_302 (q := 303) (v := (1 : Int32)) (by decide) rfl ?_
        refine zr_goto (q := 307) C dX11_dominance_303 (by decide) ?_
        refine zr_istore_n C dX11_dominance_307 (q := 308) rfl (by decide) (lv' := [(3, .int (1 : Int32)), (0, .ref (zz_d Z 0)), (1, .int v1), (2, .int v2), (4, .int v4)]) rfl rfl ?_
        refine zr_iinc C dX11_dominance_308 (q := 311) h (by decide) 4 rfl (by decide) (lw := fun v4_44 => [(4, .int v4_44), (3, .int (1 : Int32)), (0, .ref (zz_d Z 0)), (1, .int v1), (2, .int v2)]) (fun _ => rfl) rfl (fun v4_44 h => ?_)
        refine zr_goto (q := 259) C dX11_dominance_311 (by decide) ?_
        exact zr_sub [2, 3, 4, 1, 0] rfl (ih (1 : Int32) v4_44 h)
      · skip
        refine zr_aload_n C dX11_dominance_272 (q := 273) rfl 0 rfl rfl ?_
        refine zr_get C dX11_dominance_273 (q := 276) zM_gX11_37_0 rfl ?_
        refine zr_iload C dX11_dominance_276 (q := 278) 4 rfl rfl ?_
        obtain ⟨hin_278, h⟩ := zx_ck_so h
        refine zr_zald C dX11_dominance_278 (q := 279) zM_a10 hin_278 rfl ?_
        refine zr_if_eq (tgt := 306) (q := 282) C dX11_dominance_279 h (by decide) rfl (fun h => ?_) (fun h => ?_)
        · skip
          refine zr_iconst C dX11_dominance_306 (q := 307) (v := (0 : Int32)) (by decide) rfl ?_
          refine zr_istore_n C dX11_dominance_307 (q := 308) rfl (by decide) (lv' := [(3, .int (0 : Int32)), (0, .ref (zz_d Z 0)), (1, .int v1), (2, .int v2), (4, .int v4)]) rfl rfl ?_
          refine zr_iinc C dX11_dominance_308 (q := 311) h (by decide) 4 rfl (by decide) (lw := fun v4_43 => [(4, .int v4_43), (3, .int (0 : Int32)), (0, .ref (zz_d Z 0)), (1, .int v1), (2, .int v2)]) (fun _ => rfl) rfl (fun v4_43 h => ?_)
          refine zr_goto (q := 259) C dX11_dominance_311 (by decide) ?_
          exact zr_sub [2, 3, 4, 1, 0] rfl (ih (0 : Int32) v4_43 h)
        · skip
          refine zr_aload_n C dX11_dominance_282 (q := 283) rfl 0 rfl rfl ?_
          refine zr_iload C dX11_dominance_283 (q := 285) 4 rfl rfl ?_
          refine zr_iload_n C dX11_dominance_285 (q := 286) rfl 1 rfl rfl ?_
          obtain ⟨r38, hc_286, h⟩ := zx_b1_so h
          refine zr_cvI (q := 289) C (As := [.int v4, .int v1]) (k := 0) (rest := []) dX11_dominance_286 (zM_ValueBenchModel_leads_met C.2.2.2.2.1 C.2.2.2.1 hc_286) zM_vX11_141 zM_o0 ⟨by decide, by decide⟩ rfl (Nat.le_of_ble_eq_true rfl) rfl rfl ?_
          refine zr_if_eq (tgt := 306) (q := 292) C dX11_dominance_289 h (by decide) rfl (fun h => ?_) (fun h => ?_)
          · skip
            refine zr_iconst C dX11_dominance_306 (q := 307) (v := (0 : Int32)) (by decide) rfl ?_
            refine zr_istore_n C dX11_dominance_307 (q := 308) rfl (by decide) (lv' := [(3, .int (0 : Int32)), (0, .ref (zz_d Z 0)), (1, .int v1), (2, .int v2), (4, .int v4)]) rfl rfl ?_
            refine zr_iinc C dX11_dominance_308 (q := 311) h (by decide) 4 rfl (by decide) (lw := fun v4_42 => [(4, .int v4_42), (3, .int (0 : Int32)), (0, .ref (zz_d Z 0)), (1, .int v1), (2, .int v2)]) (fun _ => rfl) rfl (fun v4_42 h => ?_)
            refine zr_goto (q := 259) C dX11_dominance_311 (by decide) ?_
            exact zr_sub [2, 3, 4, 1, 0] rfl (ih (0 : Int32) v4_42 h)
          · skip
            refine zr_aload_n C dX11_dominance_292 (q := 293) rfl 0 rfl rfl ?_
            refine zr_iload_n C dX11_dominance_293 (q := 294) rfl 2 rfl rfl ?_
            refine zr_iload C dX11_dominance_294 (q := 296) 4 rfl rfl ?_
            obtain ⟨r39, hc_296, h⟩ := zx_b1_so h
            refine zr_cvI (q := 299) C (As := [.int v2, .int v4]) (k := 0) (rest := []) dX11_dominance_296 (zM_ValueBenchModel_dominates1_met C.2.2.2.2.1 C.2.2.2.1 hc_296) zM_vX11_149 zM_o0 ⟨by decide, by decide⟩ rfl (Nat.le_of_ble_eq_true rfl) rfl rfl ?_
            refine zr_if_eq (tgt := 306) (q := 302) C dX11_dominance_299 h (by decide) rfl (fun h => ?_) (fun h => ?_)
            · skip
              refine zr_iconst C dX11_dominance_306 (q := 307) (v := (0 : Int32)) (by decide) rfl ?_
              refine zr_istore_n C dX11_dominance_307 (q := 308) rfl (by decide) (lv' := [(3, .int (0 : Int32)), (0, .ref (zz_d Z 0)), (1, .int v1), (2, .int v2), (4, .int v4)]) rfl rfl ?_
              refine zr_iinc C dX11_dominance_308 (q := 311) h (by decide) 4 rfl (by decide) (lw := fun v4_41 => [(4, .int v4_41), (3, .int (0 : Int32)), (0, .ref (zz_d Z 0)), (1, .int v1), (2, .int v2)]) (fun _ => rfl) rfl (fun v4_41 h => ?_)
              refine zr_goto (q := 259) C dX11_dominance_311 (by decide) ?_
              exact zr_sub [2, 3, 4, 1, 0] rfl (ih (0 : Int32) v4_41 h)
            · skip
              refine zr_iconst C dX11_dominance_302 (q := 303) (v := (1 : Int32)) (by decide) rfl ?_
              refine zr_goto (q := 307) C dX11_dominance_303 (by decide) ?_
              refine zr_istore_n C dX11_dominance_307 (q := 308) rfl (by decide) (lv' := [(3, .int (1 : Int32)), (0, .ref (zz_d Z 0)), (1, .int v1), (2, .int v2), (4, .int v4)]) rfl rfl ?_
              refine zr_iinc C dX11_dominance_308 (q := 311) h (by decide) 4 rfl (by decide) (lw := fun v4_40 => [(4, .int v4_40), (3, .int (1 : Int32)), (0, .ref (zz_d Z 0)), (1, .int v1), (2, .int v2)]) (fun _ => rfl) rfl (fun v4_40 h => ?_)
              refine zr_goto (q := 259) C dX11_dominance_311 (by decide) ?_
              exact zr_sub [2, 3, 4, 1, 0] rfl (ih (1 : Int32) v4_40 h)
set_option maxRecDepth 100000 in
set_option maxHeartbeats 4000000 in
theorem zM_ValueBenchModel_dominance_L246_w {Z : zx_Z} (C : zx_ok zM_sd Z cX11_dominance 5 RX11 3 68) {r : zx_S} (v1 : Int32) {k372 : zx_S → Option zx_S} (hr : zx_rV zM_sd Z cX11_dominance 5 r) (h372 : ∀ (s1 : zx_S), k372 s1 = some r → zW zM_sd Z 5 372 [(0, .ref (zz_d Z 0)), (1, .int v1)] [] s1) : ∀ (n : Nat) (v2 : Int32) (s : zx_S), zM_ValueBenchModel_dominance_L246 v1 k372 n v2 s = some r → zW zM_sd Z 5 246 [(0, .ref (zz_d Z 0)), (1, .int v1), (2, .int v2)] [] s := by
  intro n
  induction n with
  | zero => intro v2 s h; unfold zM_ValueBenchModel_dominance_L246 at h; cases h
  | succ n ih =>
    intro v2 s h
    unfold zM_ValueBenchModel_dominance_L246 at h
    refine zr_iload_n C dX11_dominance_246 (q := 247) rfl 2 rfl rfl ?_
    refine zr_aload_n C dX11_dominance_247 (q := 248) rfl 0 rfl rfl ?_
    refine zr_get C dX11_dominance_248 (q := 251) zM_gX11_120_0 rfl ?_
    refine zr_icmp_ge (tgt := 372) (q := 254) C dX11_dominance_251 h (by decide) rfl (fun h => ?_) (fun h => ?_)
    · skip
      exact zr_sub [0, 1] rfl (h372 s h)
    · skip
      refine zr_iconst C dX11_dominance_254 (q := 255) (v := (0 : Int32)) (by decide) rfl ?_
      refine zr_istore_n C dX11_dominance_255 (q := 256) rfl (by decide) (lv' := [(3, .int (0 : Int32)), (0, .ref (zz_d Z 0)), (1, .int v1), (2, .int v2)]) rfl rfl ?_
      refine zr_iconst C dX11_dominance_256 (q := 257) (v := (0 : Int32)) (by decide) rfl ?_
      refine zr_istore C dX11_dominance_257 (q := 259) (by decide) (lv' := [(4, .int (0 : Int32)), (3, .int (0 : Int32)), (0, .ref (zz_d Z 0)), (1, .int v1), (2, .int v2)]) rfl rfl ?_
      refine zr_sub [2, 3, 4, 1, 0] rfl (zM_ValueBenchModel_dominance_L259_w C v1 v2 s hr (fun v3_45 h => ?_) 10000 (0 : Int32) (0 : Int32) h)
      · skip
        refine zr_aload_n C dX11_dominance_314 (q := 315) rfl 0 rfl rfl ?_
        refine zr_get C dX11_dominance_315 (q := 318) zM_gX11_50_0 rfl ?_
        refine zr_bipush C dX11_dominance_318 (q := 320) (v := (16 : Int32)) (by decide) rfl ?_
        refine zr_iload_n C dX11_dominance_320 (q := 321) rfl 2 rfl rfl ?_
        refine zr_imul C dX11_dominance_321 (q := 322) rfl ?_
        refine zr_iload_n C dX11_dominance_322 (q := 323) rfl 1 rfl rfl ?_
        refine zr_iadd C dX11_dominance_323 (q := 324) rfl ?_
        refine zr_iload_n C dX11_dominance_324 (q := 325) rfl 3 rfl rfl ?_
        refine zr_if_eq (tgt := 364) (q := 328) C dX11_dominance_325 h (by decide) rfl (fun h => ?_) (fun h => ?_)
        · skip
          refine zr_iconst C dX11_dominance_364 (q := 365) (v := (0 : Int32)) (by decide) rfl ?_
          obtain ⟨hin_365, h⟩ := zx_ck_so h
          refine zr_zast C dX11_dominance_365 (q := 366) zM_a14 hin_365 rfl ?_
          refine zr_ls h (fun s57 h => ?_)
          refine zr_iinc C dX11_dominance_366 (q := 369) h (by decide) 2 rfl (by decide) (lw := fun v2_58 => [(2, .int v2_58), (0, .ref (zz_d Z 0)), (1, .int v1), (3, .int v3_45)]) (fun _ => rfl) rfl (fun v2_58 h => ?_)
          refine zr_goto (q := 246) C dX11_dominance_369 (by decide) ?_
          exact zr_sub [1, 2, 0] rfl (ih v2_58 s57 h)
        · skip
          refine zr_aload_n C dX11_dominance_328 (q := 329) rfl 0 rfl rfl ?_
          refine zr_get C dX11_dominance_329 (q := 332) zM_gX11_37_0 rfl ?_
          refine zr_iload_n C dX11_dominance_332 (q := 333) rfl 2 rfl rfl ?_
          obtain ⟨hin_333, h⟩ := zx_ck_so h
          refine zr_zald C dX11_dominance_333 (q := 334) zM_a10 hin_333 rfl ?_
          refine zr_if_eq (tgt := 364) (q := 337) C dX11_dominance_334 h (by decide) rfl (fun h => ?_) (fun h => ?_)
          · skip
            refine zr_iconst C dX11_dominance_364 (q := 365) (v := (0 : Int32)) (by decide) rfl ?_
            obtain ⟨hin_365, h⟩ := zx_ck_so h
            refine zr_zast C dX11_dominance_365 (q := 366) zM_a14 hin_365 rfl ?_
            refine zr_ls h (fun s55 h => ?_)
            refine zr_iinc C dX11_dominance_366 (q := 369) h (by decide) 2 rfl (by decide) (lw := fun v2_56 => [(2, .int v2_56), (0, .ref (zz_d Z 0)), (1, .int v1), (3, .int v3_45)]) (fun _ => rfl) rfl (fun v2_56 h => ?_)
            refine zr_goto (q := 246) C dX11_dominance_369 (by decide) ?_
            exact zr_sub [1, 2, 0] rfl (ih v2_56 s55 h)
          · skip
            refine zr_aload_n C dX11_dominance_337 (q := 338) rfl 0 rfl rfl ?_
            refine zr_get C dX11_dominance_338 (q := 341) zM_gX11_37_0 rfl ?_
            refine zr_iload_n C dX11_dominance_341 (q := 342) rfl 1 rfl rfl ?_
            obtain ⟨hin_342, h⟩ := zx_ck_so h
            refine zr_zald C dX11_dominance_342 (q := 343) zM_a10 hin_342 rfl ?_
            refine zr_if_eq (tgt := 364) (q := 346) C dX11_dominance_343 h (by decide) rfl (fun h => ?_) (fun h => ?_)
            · skip
              refine zr_iconst C dX11_dominance_364 (q := 365) (v := (0 : Int32)) (by decide) rfl ?_
              obtain ⟨hin_365, h⟩ := zx_ck_so h
              refine zr_zast C dX11_dominance_365 (q := 366) zM_a14 hin_365 rfl ?_
              refine zr_ls h (fun s53 h => ?_)
              refine zr_iinc C dX11_dominance_366 (q := 369) h (by decide) 2 rfl (by decide) (lw := fun v2_54 => [(2, .int v2_54), (0, .ref (zz_d Z 0)), (1, .int v1), (3, .int v3_45)]) (fun _ => rfl) rfl (fun v2_54 h => ?_)
              refine zr_goto (q := 246) C dX11_dominance_369 (by decide) ?_
              exact zr_sub [1, 2, 0] rfl (ih v2_54 s53 h)
            · skip
              refine zr_iload_n C dX11_dominance_346 (q := 347) rfl 2 rfl rfl ?_
              refine zr_iload_n C dX11_dominance_347 (q := 348) rfl 1 rfl rfl ?_
              refine zr_icmp_eq (tgt := 360) (q := 351) C dX11_dominance_348 h (by decide) rfl (fun h => ?_) (fun h => ?_)
              · skip
                refine zr_iconst C dX11_dominance_360 (q := 361) (v := (1 : Int32)) (by decide) rfl ?_
                refine zr_goto (q := 365) C dX11_dominance_361 (by decide) ?_
                obtain ⟨hin_365, h⟩ := zx_ck_so h
                refine zr_zast C dX11_dominance_365 (q := 366) zM_a14 hin_365 rfl ?_
                refine zr_ls h (fun s51 h => ?_)
                refine zr_iinc C dX11_dominance_366 (q := 369) h (by decide) 2 rfl (by decide) (lw := fun v2_52 => [(2, .int v2_52), (0, .ref (zz_d Z 0)), (1, .int v1), (3, .int v3_45)]) (fun _ => rfl) rfl (fun v2_52 h => ?_)
                refine zr_goto (q := 246) C dX11_dominance_369 (by decide) ?_
                exact zr_sub [1, 2, 0] rfl (ih v2_52 s51 h)
              · skip
                refine zr_aload_n C dX11_dominance_351 (q := 352) rfl 0 rfl rfl ?_
                refine zr_iload_n C dX11_dominance_352 (q := 353) rfl 2 rfl rfl ?_
                refine zr_iload_n C dX11_dominance_353 (q := 354) rfl 1 rfl rfl ?_
                obtain ⟨r46, hc_354, h⟩ := zx_b1_so h
                refine zr_cvI (q := 357) C (As := [.int v2, .int v1]) (k := 0) (rest := [.int (((16 : Int32) * v2) + v1), .ref (zz_d Z 14)]) dX11_dominance_354 (zM_ValueBenchModel_dominates1_met C.2.2.2.2.1 C.2.2.2.1 hc_354) zM_vX11_149 zM_o0 ⟨by decide, by decide⟩ rfl (Nat.le_of_ble_eq_true rfl) rfl rfl ?_
                refine zr_if_ne (tgt := 364) (q := 360) C dX11_dominance_357 h (by decide) rfl (fun h => ?_) (fun h => ?_)
                · skip
                  refine zr_iconst C dX11_dominance_364 (q := 365) (v := (0 : Int32)) (by decide) rfl ?_
                  obtain ⟨hin_365, h⟩ := zx_ck_so h
                  refine zr_zast C dX11_dominance_365 (q := 366) zM_a14 hin_365 rfl ?_
                  refine zr_ls h (fun s49 h => ?_)
                  refine zr_iinc C dX11_dominance_366 (q := 369) h (by decide) 2 rfl (by decide) (lw := fun v2_50 => [(2, .int v2_50), (0, .ref (zz_d Z 0)), (1, .int v1), (3, .int v3_45)]) (fun _ => rfl) rfl (fun v2_50 h => ?_)
                  refine zr_goto (q := 246) C dX11_dominance_369 (by decide) ?_
                  exact zr_sub [1, 2, 0] rfl (ih v2_50 s49 h)
                · skip
                  refine zr_iconst C dX11_dominance_360 (q := 361) (v := (1 : Int32)) (by decide) rfl ?_
                  refine zr_goto (q := 365) C dX11_dominance_361 (by decide) ?_
                  obtain ⟨hin_365, h⟩ := zx_ck_so h
                  refine zr_zast C dX11_dominance_365 (q := 366) zM_a14 hin_365 rfl ?_
                  refine zr_ls h (fun s47 h => ?_)
                  refine zr_iinc C dX11_dominance_366 (q := 369) h (by decide) 2 rfl (by decide) (lw := fun v2_48 => [(2, .int v2_48), (0, .ref (zz_d Z 0)), (1, .int v1), (3, .int v3_45)]) (fun _ => rfl) rfl (fun v2_48 h => ?_)
                  refine zr_goto (q := 246) C dX11_dominance_369 (by decide) ?_
                  exact zr_sub [1, 2, 0] rfl (ih v2_48 s47 h)
set_option maxRecDepth 100000 in
set_option maxHeartbeats 4000000 in
theorem zM_ValueBenchModel_dominance_L120_w {Z : zx_Z} (C : zx_ok zM_sd Z cX11_dominance 5 RX11 3 68) {r : zx_S} {k378 : zx_S → Option zx_S} (hr : zx_rV zM_sd Z cX11_dominance 5 r) (h378 : ∀ (s1 : zx_S), k378 s1 = some r → zW zM_sd Z 5 378 [] [] s1) : ∀ (n : Nat) (v1 : Int32) (s : zx_S), zM_ValueBenchModel_dominance_L120 k378 n v1 s = some r → zW zM_sd Z 5 120 [(0, .ref (zz_d Z 0)), (1, .int v1)] [] s := by
  intro n
  induction n with
  | zero => intro v1 s h; unfold zM_ValueBenchModel_dominance_L120 at h; cases h
  | succ n ih =>
    intro v1 s h
    unfold zM_ValueBenchModel_dominance_L120 at h
    refine zr_iload_n C dX11_dominance_120 (q := 121) rfl 1 rfl rfl ?_
    refine zr_aload_n C dX11_dominance_121 (q := 122) rfl 0 rfl rfl ?_
    refine zr_get C dX11_dominance_122 (q := 125) zM_gX11_120_0 rfl ?_
    refine zr_icmp_ge (tgt := 378) (q := 128) C dX11_dominance_125 h (by decide) rfl (fun h => ?_) (fun h => ?_)
    · skip
      exact zr_sub [] rfl (h378 s h)
    · skip
      refine zr_aload_n C dX11_dominance_128 (q := 129) rfl 0 rfl rfl ?_
      refine zr_get C dX11_dominance_129 (q := 132) zM_gX11_47_0 rfl ?_
      refine zr_iload_n C dX11_dominance_132 (q := 133) rfl 1 rfl rfl ?_
      refine zr_iconst C dX11_dominance_133 (q := 134) (v := (-1 : Int32)) (by decide) rfl ?_
      obtain ⟨hin_134, h⟩ := zx_ck_so h
      refine zr_iast C dX11_dominance_134 (q := 135) zM_a13 hin_134 rfl ?_
      refine zr_ls h (fun s20 h => ?_)
      refine zr_iconst C dX11_dominance_135 (q := 136) (v := (0 : Int32)) (by decide) rfl ?_
      refine zr_istore_n C dX11_dominance_136 (q := 137) rfl (by decide) (lv' := [(2, .int (0 : Int32)), (0, .ref (zz_d Z 0)), (1, .int v1)]) rfl rfl ?_
      refine zr_sub [1, 2, 0] rfl (zM_ValueBenchModel_dominance_L137_w C v1 hr (fun s37 h => ?_) 10000 (0 : Int32) s20 h)
      · skip
        refine zr_iconst C dX11_dominance_244 (q := 245) (v := (0 : Int32)) (by decide) rfl ?_
        refine zr_istore_n C dX11_dominance_245 (q := 246) rfl (by decide) (lv' := [(2, .int (0 : Int32)), (0, .ref (zz_d Z 0)), (1, .int v1)]) rfl rfl ?_
        refine zr_sub [1, 2, 0] rfl (zM_ValueBenchModel_dominance_L246_w C v1 hr (fun s59 h => ?_) 10000 (0 : Int32) s37 h)
        · skip
          refine zr_iinc C dX11_dominance_372 (q := 375) h (by decide) 1 rfl (by decide) (lw := fun v1_60 => [(1, .int v1_60), (0, .ref (zz_d Z 0))]) (fun _ => rfl) rfl (fun v1_60 h => ?_)
          refine zr_goto (q := 120) C dX11_dominance_375 (by decide) ?_
          exact zr_sub [1, 0] rfl (ih v1_60 s59 h)
set_option maxRecDepth 100000 in
set_option maxHeartbeats 4000000 in
theorem zM_ValueBenchModel_dominance_w {Z : zx_Z} (C : zx_ok zM_sd Z cX11_dominance 5 RX11 3 68) {r : zx_S} (s : zx_S) (hr : zx_rV zM_sd Z cX11_dominance 5 r) (h : zM_ValueBenchModel_dominance s = some r) : zW zM_sd Z 5 0 [(0, .ref (zz_d Z 0))] [] s := by
  unfold zM_ValueBenchModel_dominance at h
  refine zr_aload_n C dX11_dominance_0 (q := 1) rfl 0 rfl rfl ?_
  refine zr_iconst C dX11_dominance_1 (q := 2) (v := (-1 : Int32)) (by decide) rfl ?_
  obtain ⟨s1, hc_2, h⟩ := zx_b1_so h
  refine zr_cvV (q := 5) C (As := [.int (-1 : Int32)]) (k := 0) (rest := []) dX11_dominance_2 (zM_ValueBenchModel_meet_met C.2.2.2.2.1 C.2.2.2.1 hc_2) zM_vX11_145 zM_o0 ⟨by decide, by decide⟩ rfl (Nat.le_of_ble_eq_true rfl) rfl rfl ?_
  refine zr_iconst C dX11_dominance_5 (q := 6) (v := (0 : Int32)) (by decide) rfl ?_
  refine zr_istore_n C dX11_dominance_6 (q := 7) rfl (by decide) (lv' := [(1, .int (0 : Int32)), (0, .ref (zz_d Z 0))]) rfl rfl ?_
  refine zr_sub [1, 0] rfl (zM_ValueBenchModel_dominance_L7_w C hr (fun s5 h => ?_) 10000 (0 : Int32) s1 h)
  · skip
    refine zr_iconst C dX11_dominance_33 (q := 34) (v := (0 : Int32)) (by decide) rfl ?_
    refine zr_istore_n C dX11_dominance_34 (q := 35) rfl (by decide) (lv' := [(1, .int (0 : Int32)), (0, .ref (zz_d Z 0))]) rfl rfl ?_
    refine zr_sub [1, 0] rfl (zM_ValueBenchModel_dominance_L35_w C hr (fun s19 h => ?_) 10000 (0 : Int32) s5 h)
    · skip
      refine zr_iconst C dX11_dominance_118 (q := 119) (v := (0 : Int32)) (by decide) rfl ?_
      refine zr_istore_n C dX11_dominance_119 (q := 120) rfl (by decide) (lv' := [(1, .int (0 : Int32)), (0, .ref (zz_d Z 0))]) rfl rfl ?_
      refine zr_sub [1, 0] rfl (zM_ValueBenchModel_dominance_L120_w C hr (fun s61 h => ?_) 10000 (0 : Int32) s19 h)
      · skip
        exact zr_retV dX11_dominance_378 h hr
theorem zM_ValueBenchModel_dominance_met {l : Launch} {D : va_G} {cz : ClassId × ClassId} {ad : Nat → Nat} (hS : zx_So zM_sd) (hi : zx_I zM_sd ad) {s : zx_S} {s1 : zx_S} (h : zM_ValueBenchModel_dominance s = some s1) : zx_MV zM_sd l D cz ad yX11_dominance cX11_dominance 5 3 68 [.ref (ad 0)] s s1 := zx_metV hS hi (by decide +kernel) rfl (Nat.le_of_ble_eq_true rfl) (fun Z e1 e2 e3 e4 C hr => by subst e1 e2 e3 e4; exact zM_ValueBenchModel_dominance_w C s hr h)
set_option maxRecDepth 100000 in
set_option maxHeartbeats 4000000 in
theorem zM_ValueBenchModel_gives_L2_w {Z : zx_Z} (C : zx_ok zM_sd Z cX11_gives 4 RX11 0 0) {r : Int32} (v1 v2 : Int32) (s : zx_S) {k43 : Option Int32} (hr : zx_rI zM_sd Z cX11_gives 4 .boolean r s) (h43 : k43 = some r → zW zM_sd Z 4 43 [] [] s) : ∀ (n : Nat) (v3 : Int32), zM_ValueBenchModel_gives_L2 v1 v2 s k43 n v3 = some r → zW zM_sd Z 4 2 [(0, .ref (zz_d Z 0)), (1, .int v1), (2, .int v2), (3, .int v3)] [] s := by
  intro n
  induction n with
  | zero => intro v3 h; unfold zM_ValueBenchModel_gives_L2 at h; cases h
  | succ n ih =>
    intro v3 h
    unfold zM_ValueBenchModel_gives_L2 at h
    refine zr_iload_n C dX11_gives_2 (q := 3) rfl 3 rfl rfl ?_
    refine zr_aload_n C dX11_gives_3 (q := 4) rfl 0 rfl rfl ?_
    refine zr_get C dX11_gives_4 (q := 7) zM_gX11_22_0 rfl ?_
    refine zr_iload_n C dX11_gives_7 (q := 8) rfl 1 rfl rfl ?_
    obtain ⟨hin_8, h⟩ := zx_ck_so h
    refine zr_iald C dX11_gives_8 (q := 9) zM_a5 hin_8 rfl ?_
    refine zr_icmp_ge (tgt := 51) (q := 12) C dX11_gives_9 h (by decide) rfl (fun h => ?_) (fun h => ?_)
    · skip
      refine zr_iconst C dX11_gives_51 (q := 52) (v := (0 : Int32)) (by decide) rfl ?_
      exact zr_retZR dX11_gives_52 (Or.inl rfl) h hr
    · skip
      refine zr_aload_n C dX11_gives_12 (q := 13) rfl 0 rfl rfl ?_
      refine zr_get C dX11_gives_13 (q := 16) zM_gX11_7_0 rfl ?_
      refine zr_bipush C dX11_gives_16 (q := 18) (v := (100 : Int32)) (by decide) rfl ?_
      refine zr_iload_n C dX11_gives_18 (q := 19) rfl 1 rfl rfl ?_
      refine zr_imul C dX11_gives_19 (q := 20) rfl ?_
      refine zr_iload_n C dX11_gives_20 (q := 21) rfl 3 rfl rfl ?_
      refine zr_iadd C dX11_gives_21 (q := 22) rfl ?_
      obtain ⟨hin_22, h⟩ := zx_ck_so h
      refine zr_iald C dX11_gives_22 (q := 23) zM_a1 hin_22 rfl ?_
      refine zr_bipush C dX11_gives_23 (q := 25) (v := (14 : Int32)) (by decide) rfl ?_
      refine zr_icmp_eq (tgt := 45) (q := 28) C dX11_gives_25 h (by decide) rfl (fun h => ?_) (fun h => ?_)
      · skip
        refine zr_iinc C dX11_gives_45 (q := 48) h (by decide) 3 rfl (by decide) (lw := fun v3_2 => [(3, .int v3_2), (0, .ref (zz_d Z 0)), (1, .int v1), (2, .int v2)]) (fun _ => rfl) rfl (fun v3_2 h => ?_)
        refine zr_goto (q := 2) C dX11_gives_48 (by decide) ?_
        exact zr_sub [1, 2, 3, 0] rfl (ih v3_2 h)
      · skip
        refine zr_aload_n C dX11_gives_28 (q := 29) rfl 0 rfl rfl ?_
        refine zr_get C dX11_gives_29 (q := 32) zM_gX11_13_0 rfl ?_
        refine zr_bipush C dX11_gives_32 (q := 34) (v := (100 : Int32)) (by decide) rfl ?_
        refine zr_iload_n C dX11_gives_34 (q := 35) rfl 1 rfl rfl ?_
        refine zr_imul C dX11_gives_35 (q := 36) rfl ?_
        refine zr_iload_n C dX11_gives_36 (q := 37) rfl 3 rfl rfl ?_
        refine zr_iadd C dX11_gives_37 (q := 38) rfl ?_
        obtain ⟨hin_38, h⟩ := zx_ck_so h
        refine zr_iald C dX11_gives_38 (q := 39) zM_a2 hin_38 rfl ?_
        refine zr_iload_n C dX11_gives_39 (q := 40) rfl 2 rfl rfl ?_
        refine zr_icmp_ne (tgt := 45) (q := 43) C dX11_gives_40 h (by decide) rfl (fun h => ?_) (fun h => ?_)
        · skip
          refine zr_iinc C dX11_gives_45 (q := 48) h (by decide) 3 rfl (by decide) (lw := fun v3_1 => [(3, .int v3_1), (0, .ref (zz_d Z 0)), (1, .int v1), (2, .int v2)]) (fun _ => rfl) rfl (fun v3_1 h => ?_)
          refine zr_goto (q := 2) C dX11_gives_48 (by decide) ?_
          exact zr_sub [1, 2, 3, 0] rfl (ih v3_1 h)
        · skip
          exact zr_sub [] rfl (h43 h)
set_option maxRecDepth 100000 in
set_option maxHeartbeats 4000000 in
theorem zM_ValueBenchModel_gives_w {Z : zx_Z} (C : zx_ok zM_sd Z cX11_gives 4 RX11 0 0) {r : Int32} (p1 p2 : Int32) (s : zx_S) (hr : zx_rI zM_sd Z cX11_gives 4 .boolean r s) (h : zM_ValueBenchModel_gives p1 p2 s = some r) : zW zM_sd Z 4 0 [(0, .ref (zz_d Z 0)), (1, .int p1), (2, .int p2)] [] s := by
  unfold zM_ValueBenchModel_gives at h
  refine zr_iconst C dX11_gives_0 (q := 1) (v := (0 : Int32)) (by decide) rfl ?_
  refine zr_istore_n C dX11_gives_1 (q := 2) rfl (by decide) (lv' := [(3, .int (0 : Int32)), (0, .ref (zz_d Z 0)), (1, .int p1), (2, .int p2)]) rfl rfl ?_
  refine zr_sub [1, 2, 3, 0] rfl (zM_ValueBenchModel_gives_L2_w C p1 p2 s hr (fun h => ?_) 10000 (0 : Int32) h)
  · skip
    refine zr_iconst C dX11_gives_43 (q := 44) (v := (1 : Int32)) (by decide) rfl ?_
    exact zr_retZR dX11_gives_44 (Or.inr rfl) h hr
theorem zM_ValueBenchModel_gives_met {l : Launch} {D : va_G} {cz : ClassId × ClassId} {ad : Nat → Nat} (hS : zx_So zM_sd) (hi : zx_I zM_sd ad) {p1 p2 : Int32} {s : zx_S} {v : Int32} (h : zM_ValueBenchModel_gives p1 p2 s = some v) : zx_MI zM_sd l D cz ad yX11_gives cX11_gives 4 .boolean 0 0 [.ref (ad 0), .int p1, .int p2] s v s := zx_metI hS hi (by decide +kernel) rfl (Nat.le_of_ble_eq_true rfl) (fun Z e1 e2 e3 e4 C hr => by subst e1 e2 e3 e4; exact zM_ValueBenchModel_gives_w C p1 p2 s hr h)
set_option maxRecDepth 100000 in
set_option maxHeartbeats 4000000 in
theorem zM_ValueBenchModel_choices_L2_w {Z : zx_Z} (C : zx_ok zM_sd Z cX11_choices 5 RX11 1 23) {r : zx_S} {k22 : zx_S → Option zx_S} (hr : zx_rV zM_sd Z cX11_choices 5 r) (h22 : ∀ (s1 : zx_S), k22 s1 = some r → zW zM_sd Z 5 22 [(0, .ref (zz_d Z 0))] [] s1) : ∀ (n : Nat) (v1 : Int32) (s : zx_S), zM_ValueBenchModel_choices_L2 k22 n v1 s = some r → zW zM_sd Z 5 2 [(0, .ref (zz_d Z 0)), (1, .int v1)] [] s := by
  intro n
  induction n with
  | zero => intro v1 s h; unfold zM_ValueBenchModel_choices_L2 at h; cases h
  | succ n ih =>
    intro v1 s h
    unfold zM_ValueBenchModel_choices_L2 at h
    refine zr_iload_n C dX11_choices_2 (q := 3) rfl 1 rfl rfl ?_
    refine zr_sipush C dX11_choices_3 (q := 6) (v := (160 : Int32)) (by decide) rfl ?_
    refine zr_icmp_ge (tgt := 22) (q := 9) C dX11_choices_6 h (by decide) rfl (fun h => ?_) (fun h => ?_)
    · skip
      exact zr_sub [0] rfl (h22 s h)
    · skip
      refine zr_aload_n C dX11_choices_9 (q := 10) rfl 0 rfl rfl ?_
      refine zr_get C dX11_choices_10 (q := 13) zM_gX11_53_0 rfl ?_
      refine zr_iload_n C dX11_choices_13 (q := 14) rfl 1 rfl rfl ?_
      refine zr_iconst C dX11_choices_14 (q := 15) (v := (0 : Int32)) (by decide) rfl ?_
      obtain ⟨hin_15, h⟩ := zx_ck_so h
      refine zr_zast C dX11_choices_15 (q := 16) zM_a15 hin_15 rfl ?_
      refine zr_ls h (fun s1 h => ?_)
      refine zr_iinc C dX11_choices_16 (q := 19) h (by decide) 1 rfl (by decide) (lw := fun v1_2 => [(1, .int v1_2), (0, .ref (zz_d Z 0))]) (fun _ => rfl) rfl (fun v1_2 h => ?_)
      refine zr_goto (q := 2) C dX11_choices_19 (by decide) ?_
      exact zr_sub [1, 0] rfl (ih v1_2 s1 h)
set_option maxRecDepth 100000 in
set_option maxHeartbeats 4000000 in
theorem zM_ValueBenchModel_choices_L70_w {Z : zx_Z} (C : zx_ok zM_sd Z cX11_choices 5 RX11 1 23) {r : zx_S} (v2 v3 : Int32) {k145 : Int32 → zx_S → Option zx_S} (hr : zx_rV zM_sd Z cX11_choices 5 r) (h145 : ∀ (a0 : Int32) (s1 : zx_S), k145 a0 s1 = some r → zW zM_sd Z 5 145 [(0, .ref (zz_d Z 0)), (1, .int a0), (2, .int v2), (3, .int v3)] [] s1) : ∀ (n : Nat) (v1 : Int32) (v4 : Int32) (s : zx_S), zM_ValueBenchModel_choices_L70 v2 v3 k145 n v1 v4 s = some r → zW zM_sd Z 5 70 [(0, .ref (zz_d Z 0)), (1, .int v1), (2, .int v2), (3, .int v3), (4, .int v4)] [] s := by
  intro n
  induction n with
  | zero => intro v1 v4 s h; unfold zM_ValueBenchModel_choices_L70 at h; cases h
  | succ n ih =>
    intro v1 v4 s h
    unfold zM_ValueBenchModel_choices_L70 at h
    refine zr_iload C dX11_choices_70 (q := 72) 4 rfl rfl ?_
    refine zr_bipush C dX11_choices_72 (q := 74) (v := (10 : Int32)) (by decide) rfl ?_
    refine zr_icmp_ge (tgt := 145) (q := 77) C dX11_choices_74 h (by decide) rfl (fun h => ?_) (fun h => ?_)
    · skip
      exact zr_sub [0, 1, 2, 3] rfl (h145 v1 s h)
    · skip
      refine zr_aload_n C dX11_choices_77 (q := 78) rfl 0 rfl rfl ?_
      refine zr_get C dX11_choices_78 (q := 81) zM_gX11_53_0 rfl ?_
      refine zr_bipush C dX11_choices_81 (q := 83) (v := (10 : Int32)) (by decide) rfl ?_
      refine zr_iload_n C dX11_choices_83 (q := 84) rfl 3 rfl rfl ?_
      refine zr_imul C dX11_choices_84 (q := 85) rfl ?_
      refine zr_iload C dX11_choices_85 (q := 87) 4 rfl rfl ?_
      refine zr_iadd C dX11_choices_87 (q := 88) rfl ?_
      obtain ⟨hin_88, h⟩ := zx_ck_so h
      refine zr_zald C dX11_choices_88 (q := 89) zM_a15 hin_88 rfl ?_
      refine zr_if_ne (tgt := 139) (q := 92) C dX11_choices_89 h (by decide) rfl (fun h => ?_) (fun h => ?_)
      · skip
        refine zr_iinc C dX11_choices_139 (q := 142) h (by decide) 4 rfl (by decide) (lw := fun v4_13 => [(4, .int v4_13), (0, .ref (zz_d Z 0)), (1, .int v1), (2, .int v2), (3, .int v3)]) (fun _ => rfl) rfl (fun v4_13 h => ?_)
        refine zr_goto (q := 70) C dX11_choices_142 (by decide) ?_
        exact zr_sub [1, 2, 3, 4, 0] rfl (ih v1 v4_13 s h)
      · skip
        refine zr_iload_n C dX11_choices_92 (q := 93) rfl 2 rfl rfl ?_
        refine zr_if_eq (tgt := 124) (q := 96) C dX11_choices_93 h (by decide) rfl (fun h => ?_) (fun h => ?_)
        · skip
          refine zr_aload_n C dX11_choices_124 (q := 125) rfl 0 rfl rfl ?_
          refine zr_get C dX11_choices_125 (q := 128) zM_gX11_53_0 rfl ?_
          refine zr_bipush C dX11_choices_128 (q := 130) (v := (10 : Int32)) (by decide) rfl ?_
          refine zr_iload_n C dX11_choices_130 (q := 131) rfl 3 rfl rfl ?_
          refine zr_imul C dX11_choices_131 (q := 132) rfl ?_
          refine zr_iload C dX11_choices_132 (q := 134) 4 rfl rfl ?_
          refine zr_iadd C dX11_choices_134 (q := 135) rfl ?_
          refine zr_iconst C dX11_choices_135 (q := 136) (v := (1 : Int32)) (by decide) rfl ?_
          obtain ⟨hin_136, h⟩ := zx_ck_so h
          refine zr_zast C dX11_choices_136 (q := 137) zM_a15 hin_136 rfl ?_
          refine zr_ls h (fun s11 h => ?_)
          refine zr_iconst C dX11_choices_137 (q := 138) (v := (1 : Int32)) (by decide) rfl ?_
          refine zr_istore_n C dX11_choices_138 (q := 139) rfl (by decide) (lv' := [(1, .int (1 : Int32)), (0, .ref (zz_d Z 0)), (2, .int v2), (3, .int v3), (4, .int v4)]) rfl rfl ?_
          refine zr_iinc C dX11_choices_139 (q := 142) h (by decide) 4 rfl (by decide) (lw := fun v4_12 => [(4, .int v4_12), (1, .int (1 : Int32)), (0, .ref (zz_d Z 0)), (2, .int v2), (3, .int v3)]) (fun _ => rfl) rfl (fun v4_12 h => ?_)
          refine zr_goto (q := 70) C dX11_choices_142 (by decide) ?_
          exact zr_sub [2, 1, 3, 4, 0] rfl (ih (1 : Int32) v4_12 s11 h)
        · skip
          refine zr_aload_n C dX11_choices_96 (q := 97) rfl 0 rfl rfl ?_
          refine zr_iload_n C dX11_choices_97 (q := 98) rfl 2 rfl rfl ?_
          refine zr_iload C dX11_choices_98 (q := 100) 4 rfl rfl ?_
          obtain ⟨r5, hc_100, h⟩ := zx_b1_so h
          refine zr_cvI (q := 103) C (As := [.int v2, .int v4]) (k := 0) (rest := []) dX11_choices_100 (zM_ValueBenchModel_gives_met C.2.2.2.2.1 C.2.2.2.1 hc_100) zM_vX11_152 zM_o0 ⟨by decide, by decide⟩ rfl (Nat.le_of_ble_eq_true rfl) rfl rfl ?_
          refine zr_if_ne (tgt := 124) (q := 106) C dX11_choices_103 h (by decide) rfl (fun h => ?_) (fun h => ?_)
          · skip
            refine zr_aload_n C dX11_choices_124 (q := 125) rfl 0 rfl rfl ?_
            refine zr_get C dX11_choices_125 (q := 128) zM_gX11_53_0 rfl ?_
            refine zr_bipush C dX11_choices_128 (q := 130) (v := (10 : Int32)) (by decide) rfl ?_
            refine zr_iload_n C dX11_choices_130 (q := 131) rfl 3 rfl rfl ?_
            refine zr_imul C dX11_choices_131 (q := 132) rfl ?_
            refine zr_iload C dX11_choices_132 (q := 134) 4 rfl rfl ?_
            refine zr_iadd C dX11_choices_134 (q := 135) rfl ?_
            refine zr_iconst C dX11_choices_135 (q := 136) (v := (1 : Int32)) (by decide) rfl ?_
            obtain ⟨hin_136, h⟩ := zx_ck_so h
            refine zr_zast C dX11_choices_136 (q := 137) zM_a15 hin_136 rfl ?_
            refine zr_ls h (fun s9 h => ?_)
            refine zr_iconst C dX11_choices_137 (q := 138) (v := (1 : Int32)) (by decide) rfl ?_
            refine zr_istore_n C dX11_choices_138 (q := 139) rfl (by decide) (lv' := [(1, .int (1 : Int32)), (0, .ref (zz_d Z 0)), (2, .int v2), (3, .int v3), (4, .int v4)]) rfl rfl ?_
            refine zr_iinc C dX11_choices_139 (q := 142) h (by decide) 4 rfl (by decide) (lw := fun v4_10 => [(4, .int v4_10), (1, .int (1 : Int32)), (0, .ref (zz_d Z 0)), (2, .int v2), (3, .int v3)]) (fun _ => rfl) rfl (fun v4_10 h => ?_)
            refine zr_goto (q := 70) C dX11_choices_142 (by decide) ?_
            exact zr_sub [2, 1, 3, 4, 0] rfl (ih (1 : Int32) v4_10 s9 h)
          · skip
            refine zr_aload_n C dX11_choices_106 (q := 107) rfl 0 rfl rfl ?_
            refine zr_get C dX11_choices_107 (q := 110) zM_gX11_53_0 rfl ?_
            refine zr_bipush C dX11_choices_110 (q := 112) (v := (10 : Int32)) (by decide) rfl ?_
            refine zr_iload_n C dX11_choices_112 (q := 113) rfl 2 rfl rfl ?_
            refine zr_imul C dX11_choices_113 (q := 114) rfl ?_
            refine zr_iload C dX11_choices_114 (q := 116) 4 rfl rfl ?_
            refine zr_iadd C dX11_choices_116 (q := 117) rfl ?_
            obtain ⟨hin_117, h⟩ := zx_ck_so h
            refine zr_zald C dX11_choices_117 (q := 118) zM_a15 hin_117 rfl ?_
            refine zr_if_ne (tgt := 124) (q := 121) C dX11_choices_118 h (by decide) rfl (fun h => ?_) (fun h => ?_)
            · skip
              refine zr_aload_n C dX11_choices_124 (q := 125) rfl 0 rfl rfl ?_
              refine zr_get C dX11_choices_125 (q := 128) zM_gX11_53_0 rfl ?_
              refine zr_bipush C dX11_choices_128 (q := 130) (v := (10 : Int32)) (by decide) rfl ?_
              refine zr_iload_n C dX11_choices_130 (q := 131) rfl 3 rfl rfl ?_
              refine zr_imul C dX11_choices_131 (q := 132) rfl ?_
              refine zr_iload C dX11_choices_132 (q := 134) 4 rfl rfl ?_
              refine zr_iadd C dX11_choices_134 (q := 135) rfl ?_
              refine zr_iconst C dX11_choices_135 (q := 136) (v := (1 : Int32)) (by decide) rfl ?_
              obtain ⟨hin_136, h⟩ := zx_ck_so h
              refine zr_zast C dX11_choices_136 (q := 137) zM_a15 hin_136 rfl ?_
              refine zr_ls h (fun s7 h => ?_)
              refine zr_iconst C dX11_choices_137 (q := 138) (v := (1 : Int32)) (by decide) rfl ?_
              refine zr_istore_n C dX11_choices_138 (q := 139) rfl (by decide) (lv' := [(1, .int (1 : Int32)), (0, .ref (zz_d Z 0)), (2, .int v2), (3, .int v3), (4, .int v4)]) rfl rfl ?_
              refine zr_iinc C dX11_choices_139 (q := 142) h (by decide) 4 rfl (by decide) (lw := fun v4_8 => [(4, .int v4_8), (1, .int (1 : Int32)), (0, .ref (zz_d Z 0)), (2, .int v2), (3, .int v3)]) (fun _ => rfl) rfl (fun v4_8 h => ?_)
              refine zr_goto (q := 70) C dX11_choices_142 (by decide) ?_
              exact zr_sub [2, 1, 3, 4, 0] rfl (ih (1 : Int32) v4_8 s7 h)
            · skip
              refine zr_goto (q := 139) C dX11_choices_121 (by decide) ?_
              refine zr_iinc C dX11_choices_139 (q := 142) h (by decide) 4 rfl (by decide) (lw := fun v4_6 => [(4, .int v4_6), (0, .ref (zz_d Z 0)), (1, .int v1), (2, .int v2), (3, .int v3)]) (fun _ => rfl) rfl (fun v4_6 h => ?_)
              refine zr_goto (q := 70) C dX11_choices_142 (by decide) ?_
              exact zr_sub [1, 2, 3, 4, 0] rfl (ih v1 v4_6 s h)
set_option maxRecDepth 100000 in
set_option maxHeartbeats 4000000 in
theorem zM_ValueBenchModel_choices_L42_w {Z : zx_Z} (C : zx_ok zM_sd Z cX11_choices 5 RX11 1 23) {r : zx_S} (v2 : Int32) {k151 : Int32 → zx_S → Option zx_S} (hr : zx_rV zM_sd Z cX11_choices 5 r) (h151 : ∀ (a0 : Int32) (s1 : zx_S), k151 a0 s1 = some r → zW zM_sd Z 5 151 [(0, .ref (zz_d Z 0)), (1, .int a0), (2, .int v2)] [] s1) : ∀ (n : Nat) (v1 : Int32) (v3 : Int32) (s : zx_S), zM_ValueBenchModel_choices_L42 v2 k151 n v1 v3 s = some r → zW zM_sd Z 5 42 [(0, .ref (zz_d Z 0)), (1, .int v1), (2, .int v2), (3, .int v3)] [] s := by
  intro n
  induction n with
  | zero => intro v1 v3 s h; unfold zM_ValueBenchModel_choices_L42 at h; cases h
  | succ n ih =>
    intro v1 v3 s h
    unfold zM_ValueBenchModel_choices_L42 at h
    refine zr_iload_n C dX11_choices_42 (q := 43) rfl 3 rfl rfl ?_
    refine zr_aload_n C dX11_choices_43 (q := 44) rfl 0 rfl rfl ?_
    refine zr_get C dX11_choices_44 (q := 47) zM_gX11_120_0 rfl ?_
    refine zr_icmp_ge (tgt := 151) (q := 50) C dX11_choices_47 h (by decide) rfl (fun h => ?_) (fun h => ?_)
    · skip
      exact zr_sub [0, 1, 2] rfl (h151 v1 s h)
    · skip
      refine zr_aload_n C dX11_choices_50 (q := 51) rfl 0 rfl rfl ?_
      refine zr_get C dX11_choices_51 (q := 54) zM_gX11_50_0 rfl ?_
      refine zr_bipush C dX11_choices_54 (q := 56) (v := (16 : Int32)) (by decide) rfl ?_
      refine zr_iload_n C dX11_choices_56 (q := 57) rfl 2 rfl rfl ?_
      refine zr_imul C dX11_choices_57 (q := 58) rfl ?_
      refine zr_iload_n C dX11_choices_58 (q := 59) rfl 3 rfl rfl ?_
      refine zr_iadd C dX11_choices_59 (q := 60) rfl ?_
      obtain ⟨hin_60, h⟩ := zx_ck_so h
      refine zr_zald C dX11_choices_60 (q := 61) zM_a14 hin_60 rfl ?_
      refine zr_if_ne (tgt := 67) (q := 64) C dX11_choices_61 h (by decide) rfl (fun h => ?_) (fun h => ?_)
      · skip
        refine zr_iconst C dX11_choices_67 (q := 68) (v := (0 : Int32)) (by decide) rfl ?_
        refine zr_istore C dX11_choices_68 (q := 70) (by decide) (lv' := [(4, .int (0 : Int32)), (0, .ref (zz_d Z 0)), (1, .int v1), (2, .int v2), (3, .int v3)]) rfl rfl ?_
        refine zr_sub [1, 2, 3, 4, 0] rfl (zM_ValueBenchModel_choices_L70_w C v2 v3 hr (fun v1_14 s15 h => ?_) 10000 v1 (0 : Int32) s h)
        · skip
          refine zr_iinc C dX11_choices_145 (q := 148) h (by decide) 3 rfl (by decide) (lw := fun v3_16 => [(3, .int v3_16), (0, .ref (zz_d Z 0)), (1, .int v1_14), (2, .int v2)]) (fun _ => rfl) rfl (fun v3_16 h => ?_)
          refine zr_goto (q := 42) C dX11_choices_148 (by decide) ?_
          exact zr_sub [1, 2, 3, 0] rfl (ih v1_14 v3_16 s15 h)
      · skip
        refine zr_goto (q := 145) C dX11_choices_64 (by decide) ?_
        refine zr_iinc C dX11_choices_145 (q := 148) h (by decide) 3 rfl (by decide) (lw := fun v3_4 => [(3, .int v3_4), (0, .ref (zz_d Z 0)), (1, .int v1), (2, .int v2)]) (fun _ => rfl) rfl (fun v3_4 h => ?_)
        refine zr_goto (q := 42) C dX11_choices_148 (by decide) ?_
        exact zr_sub [1, 2, 3, 0] rfl (ih v1 v3_4 s h)
set_option maxRecDepth 100000 in
set_option maxHeartbeats 4000000 in
theorem zM_ValueBenchModel_choices_L32_w {Z : zx_Z} (C : zx_ok zM_sd Z cX11_choices 5 RX11 1 23) {r : zx_S} {k157 : Int32 → zx_S → Option zx_S} (hr : zx_rV zM_sd Z cX11_choices 5 r) (h157 : ∀ (a0 : Int32) (s1 : zx_S), k157 a0 s1 = some r → zW zM_sd Z 5 157 [(0, .ref (zz_d Z 0)), (1, .int a0)] [] s1) : ∀ (n : Nat) (v1 : Int32) (v2 : Int32) (s : zx_S), zM_ValueBenchModel_choices_L32 k157 n v1 v2 s = some r → zW zM_sd Z 5 32 [(0, .ref (zz_d Z 0)), (1, .int v1), (2, .int v2)] [] s := by
  intro n
  induction n with
  | zero => intro v1 v2 s h; unfold zM_ValueBenchModel_choices_L32 at h; cases h
  | succ n ih =>
    intro v1 v2 s h
    unfold zM_ValueBenchModel_choices_L32 at h
    refine zr_iload_n C dX11_choices_32 (q := 33) rfl 2 rfl rfl ?_
    refine zr_aload_n C dX11_choices_33 (q := 34) rfl 0 rfl rfl ?_
    refine zr_get C dX11_choices_34 (q := 37) zM_gX11_120_0 rfl ?_
    refine zr_icmp_ge (tgt := 157) (q := 40) C dX11_choices_37 h (by decide) rfl (fun h => ?_) (fun h => ?_)
    · skip
      exact zr_sub [0, 1] rfl (h157 v1 s h)
    · skip
      refine zr_iconst C dX11_choices_40 (q := 41) (v := (0 : Int32)) (by decide) rfl ?_
      refine zr_istore_n C dX11_choices_41 (q := 42) rfl (by decide) (lv' := [(3, .int (0 : Int32)), (0, .ref (zz_d Z 0)), (1, .int v1), (2, .int v2)]) rfl rfl ?_
      refine zr_sub [1, 2, 3, 0] rfl (zM_ValueBenchModel_choices_L42_w C v2 hr (fun v1_17 s18 h => ?_) 10000 v1 (0 : Int32) s h)
      · skip
        refine zr_iinc C dX11_choices_151 (q := 154) h (by decide) 2 rfl (by decide) (lw := fun v2_19 => [(2, .int v2_19), (0, .ref (zz_d Z 0)), (1, .int v1_17)]) (fun _ => rfl) rfl (fun v2_19 h => ?_)
        refine zr_goto (q := 32) C dX11_choices_154 (by decide) ?_
        exact zr_sub [1, 2, 0] rfl (ih v1_17 v2_19 s18 h)
set_option maxRecDepth 100000 in
set_option maxHeartbeats 4000000 in
theorem zM_ValueBenchModel_choices_L24_w {Z : zx_Z} (C : zx_ok zM_sd Z cX11_choices 5 RX11 1 23) {r : zx_S} {k160 : zx_S → Option zx_S} (hr : zx_rV zM_sd Z cX11_choices 5 r) (h160 : ∀ (s1 : zx_S), k160 s1 = some r → zW zM_sd Z 5 160 [] [] s1) : ∀ (n : Nat) (v1 : Int32) (s : zx_S), zM_ValueBenchModel_choices_L24 k160 n v1 s = some r → zW zM_sd Z 5 24 [(0, .ref (zz_d Z 0)), (1, .int v1)] [] s := by
  intro n
  induction n with
  | zero => intro v1 s h; unfold zM_ValueBenchModel_choices_L24 at h; cases h
  | succ n ih =>
    intro v1 s h
    unfold zM_ValueBenchModel_choices_L24 at h
    refine zr_iload_n C dX11_choices_24 (q := 25) rfl 1 rfl rfl ?_
    refine zr_if_eq (tgt := 160) (q := 28) C dX11_choices_25 h (by decide) rfl (fun h => ?_) (fun h => ?_)
    · skip
      exact zr_sub [] rfl (h160 s h)
    · skip
      refine zr_iconst C dX11_choices_28 (q := 29) (v := (0 : Int32)) (by decide) rfl ?_
      refine zr_istore_n C dX11_choices_29 (q := 30) rfl (by decide) (lv' := [(1, .int (0 : Int32)), (0, .ref (zz_d Z 0))]) rfl rfl ?_
      refine zr_iconst C dX11_choices_30 (q := 31) (v := (0 : Int32)) (by decide) rfl ?_
      refine zr_istore_n C dX11_choices_31 (q := 32) rfl (by decide) (lv' := [(2, .int (0 : Int32)), (1, .int (0 : Int32)), (0, .ref (zz_d Z 0))]) rfl rfl ?_
      refine zr_sub [2, 1, 0] rfl (zM_ValueBenchModel_choices_L32_w C hr (fun v1_20 s21 h => ?_) 10000 (0 : Int32) (0 : Int32) s h)
      · skip
        refine zr_goto (q := 24) C dX11_choices_157 (by decide) ?_
        exact zr_sub [0, 1] rfl (ih v1_20 s21 h)
set_option maxRecDepth 100000 in
set_option maxHeartbeats 4000000 in
theorem zM_ValueBenchModel_choices_w {Z : zx_Z} (C : zx_ok zM_sd Z cX11_choices 5 RX11 1 23) {r : zx_S} (s : zx_S) (hr : zx_rV zM_sd Z cX11_choices 5 r) (h : zM_ValueBenchModel_choices s = some r) : zW zM_sd Z 5 0 [(0, .ref (zz_d Z 0))] [] s := by
  unfold zM_ValueBenchModel_choices at h
  refine zr_iconst C dX11_choices_0 (q := 1) (v := (0 : Int32)) (by decide) rfl ?_
  refine zr_istore_n C dX11_choices_1 (q := 2) rfl (by decide) (lv' := [(1, .int (0 : Int32)), (0, .ref (zz_d Z 0))]) rfl rfl ?_
  refine zr_sub [1, 0] rfl (zM_ValueBenchModel_choices_L2_w C hr (fun s3 h => ?_) 10000 (0 : Int32) s h)
  · skip
    refine zr_iconst C dX11_choices_22 (q := 23) (v := (1 : Int32)) (by decide) rfl ?_
    refine zr_istore_n C dX11_choices_23 (q := 24) rfl (by decide) (lv' := [(1, .int (1 : Int32)), (0, .ref (zz_d Z 0))]) rfl rfl ?_
    refine zr_sub [1, 0] rfl (zM_ValueBenchModel_choices_L24_w C hr (fun s22 h => ?_) 10000 (1 : Int32) s3 h)
    · skip
      exact zr_retV dX11_choices_160 h hr
theorem zM_ValueBenchModel_choices_met {l : Launch} {D : va_G} {cz : ClassId × ClassId} {ad : Nat → Nat} (hS : zx_So zM_sd) (hi : zx_I zM_sd ad) {s : zx_S} {s1 : zx_S} (h : zM_ValueBenchModel_choices s = some s1) : zx_MV zM_sd l D cz ad yX11_choices cX11_choices 5 1 23 [.ref (ad 0)] s s1 := zx_metV hS hi (by decide +kernel) rfl (Nat.le_of_ble_eq_true rfl) (fun Z e1 e2 e3 e4 C hr => by subst e1 e2 e3 e4; exact zM_ValueBenchModel_choices_w C s hr h)
set_option maxRecDepth 100000 in
set_option maxHeartbeats 4000000 in
theorem zM_ValueBenchModel_comes_w {Z : zx_Z} (C : zx_ok zM_sd Z cX11_comes 6 RX11 0 0) {r : Int32 × zx_S} (p1 p2 p3 p4 p5 : Int32) (s : zx_S) (hr : zx_rI zM_sd Z cX11_comes 6 .int r.1 r.2) (h : zM_ValueBenchModel_comes p1 p2 p3 p4 p5 s = some r) : zW zM_sd Z 6 0 [(0, .ref (zz_d Z 0)), (1, .int p1), (2, .int p2), (3, .int p3), (4, .int p4), (5, .int p5)] [] s := by
  unfold zM_ValueBenchModel_comes at h
  refine zr_aload_n C dX11_comes_0 (q := 1) rfl 0 rfl rfl ?_
  refine zr_get C dX11_comes_1 (q := 4) zM_gX11_56_0 rfl ?_
  refine zr_aload_n C dX11_comes_4 (q := 5) rfl 0 rfl rfl ?_
  refine zr_get C dX11_comes_5 (q := 8) zM_gX11_155_0 rfl ?_
  refine zr_iload_n C dX11_comes_8 (q := 9) rfl 1 rfl rfl ?_
  obtain ⟨hin_9, h⟩ := zx_ck_so h
  refine zr_iast C dX11_comes_9 (q := 10) zM_a16 hin_9 rfl ?_
  refine zr_ls h (fun s1 h => ?_)
  refine zr_aload_n C dX11_comes_10 (q := 11) rfl 0 rfl rfl ?_
  refine zr_get C dX11_comes_11 (q := 14) zM_gX11_59_0 rfl ?_
  refine zr_aload_n C dX11_comes_14 (q := 15) rfl 0 rfl rfl ?_
  refine zr_get C dX11_comes_15 (q := 18) zM_gX11_155_0 rfl ?_
  refine zr_iload_n C dX11_comes_18 (q := 19) rfl 2 rfl rfl ?_
  obtain ⟨hin_19, h⟩ := zx_ck_so h
  refine zr_iast C dX11_comes_19 (q := 20) zM_a17 hin_19 rfl ?_
  refine zr_ls h (fun s2 h => ?_)
  refine zr_aload_n C dX11_comes_20 (q := 21) rfl 0 rfl rfl ?_
  refine zr_get C dX11_comes_21 (q := 24) zM_gX11_62_0 rfl ?_
  refine zr_aload_n C dX11_comes_24 (q := 25) rfl 0 rfl rfl ?_
  refine zr_get C dX11_comes_25 (q := 28) zM_gX11_155_0 rfl ?_
  refine zr_iload_n C dX11_comes_28 (q := 29) rfl 3 rfl rfl ?_
  obtain ⟨hin_29, h⟩ := zx_ck_so h
  refine zr_iast C dX11_comes_29 (q := 30) zM_a18 hin_29 rfl ?_
  refine zr_ls h (fun s3 h => ?_)
  refine zr_aload_n C dX11_comes_30 (q := 31) rfl 0 rfl rfl ?_
  refine zr_get C dX11_comes_31 (q := 34) zM_gX11_65_0 rfl ?_
  refine zr_aload_n C dX11_comes_34 (q := 35) rfl 0 rfl rfl ?_
  refine zr_get C dX11_comes_35 (q := 38) zM_gX11_155_0 rfl ?_
  refine zr_iload C dX11_comes_38 (q := 40) 4 rfl rfl ?_
  obtain ⟨hin_40, h⟩ := zx_ck_so h
  refine zr_iast C dX11_comes_40 (q := 41) zM_a19 hin_40 rfl ?_
  refine zr_ls h (fun s4 h => ?_)
  refine zr_aload_n C dX11_comes_41 (q := 42) rfl 0 rfl rfl ?_
  refine zr_get C dX11_comes_42 (q := 45) zM_gX11_68_0 rfl ?_
  refine zr_aload_n C dX11_comes_45 (q := 46) rfl 0 rfl rfl ?_
  refine zr_get C dX11_comes_46 (q := 49) zM_gX11_155_0 rfl ?_
  refine zr_iload C dX11_comes_49 (q := 51) 5 rfl rfl ?_
  obtain ⟨hin_51, h⟩ := zx_ck_so h
  refine zr_iast C dX11_comes_51 (q := 52) zM_a20 hin_51 rfl ?_
  refine zr_ls h (fun s5 h => ?_)
  refine zr_aload_n C dX11_comes_52 (q := 53) rfl 0 rfl rfl ?_
  refine zr_get C dX11_comes_53 (q := 56) zM_gX11_74_0 rfl ?_
  refine zr_aload_n C dX11_comes_56 (q := 57) rfl 0 rfl rfl ?_
  refine zr_get C dX11_comes_57 (q := 60) zM_gX11_155_0 rfl ?_
  refine zr_iconst C dX11_comes_60 (q := 61) (v := (0 : Int32)) (by decide) rfl ?_
  obtain ⟨hin_61, h⟩ := zx_ck_so h
  refine zr_iast C dX11_comes_61 (q := 62) zM_a22 hin_61 rfl ?_
  refine zr_ls h (fun s6 h => ?_)
  refine zr_aload_n C dX11_comes_62 (q := 63) rfl 0 rfl rfl ?_
  refine zr_dup C dX11_comes_63 (q := 64) rfl rfl ?_
  refine zr_get C dX11_comes_64 (q := 67) zM_gX11_155_0 rfl ?_
  refine zr_iconst C dX11_comes_67 (q := 68) (v := (1 : Int32)) (by decide) rfl ?_
  refine zr_iadd C dX11_comes_68 (q := 69) rfl ?_
  refine zr_top h (fun x7 h => ?_)
  refine zr_put C dX11_comes_69 (q := 72) zM_pX11_155_0 rfl rfl rfl ?_
  refine zr_ls h (fun s8 h => ?_)
  refine zr_aload_n C dX11_comes_72 (q := 73) rfl 0 rfl rfl ?_
  refine zr_get C dX11_comes_73 (q := 76) zM_gX11_155_0 rfl ?_
  refine zr_iconst C dX11_comes_76 (q := 77) (v := (1 : Int32)) (by decide) rfl ?_
  refine zr_isub C dX11_comes_77 (q := 78) rfl ?_
  exact zr_retI dX11_comes_78 h hr
theorem zM_ValueBenchModel_comes_met {l : Launch} {D : va_G} {cz : ClassId × ClassId} {ad : Nat → Nat} (hS : zx_So zM_sd) (hi : zx_I zM_sd ad) {p1 p2 p3 p4 p5 : Int32} {s : zx_S} {v : Int32} {s1 : zx_S} (h : zM_ValueBenchModel_comes p1 p2 p3 p4 p5 s = some (v, s1)) : zx_MI zM_sd l D cz ad yX11_comes cX11_comes 6 .int 0 0 [.ref (ad 0), .int p1, .int p2, .int p3, .int p4, .int p5] s v s1 := zx_metI hS hi (by decide +kernel) rfl (Nat.le_of_ble_eq_true rfl) (fun Z e1 e2 e3 e4 C hr => by subst e1 e2 e3 e4; exact zM_ValueBenchModel_comes_w (r := (v, s1)) C p1 p2 p3 p4 p5 s hr h)
set_option maxRecDepth 100000 in
set_option maxHeartbeats 4000000 in
theorem zM_ValueBenchModel_numbers_L48_w {Z : zx_Z} (C : zx_ok zM_sd Z cX11_numbers 5 RX11 1 25) {r : zx_S} (v2 : Int32) {k95 : zx_S → Option zx_S} (hr : zx_rV zM_sd Z cX11_numbers 5 r) (h95 : ∀ (s1 : zx_S), k95 s1 = some r → zW zM_sd Z 5 95 [(0, .ref (zz_d Z 0)), (2, .int v2)] [] s1) : ∀ (n : Nat) (v3 : Int32) (s : zx_S), zM_ValueBenchModel_numbers_L48 v2 k95 n v3 s = some r → zW zM_sd Z 5 48 [(0, .ref (zz_d Z 0)), (2, .int v2), (3, .int v3)] [] s := by
  intro n
  induction n with
  | zero => intro v3 s h; unfold zM_ValueBenchModel_numbers_L48 at h; cases h
  | succ n ih =>
    intro v3 s h
    unfold zM_ValueBenchModel_numbers_L48 at h
    refine zr_iload_n C dX11_numbers_48 (q := 49) rfl 2 rfl rfl ?_
    refine zr_bipush C dX11_numbers_49 (q := 51) (v := (10 : Int32)) (by decide) rfl ?_
    refine zr_icmp_ge (tgt := 95) (q := 54) C dX11_numbers_51 h (by decide) rfl (fun h => ?_) (fun h => ?_)
    · skip
      exact zr_sub [0, 1] rfl (h95 s h)
    · skip
      refine zr_aload_n C dX11_numbers_54 (q := 55) rfl 0 rfl rfl ?_
      refine zr_get C dX11_numbers_55 (q := 58) zM_gX11_53_0 rfl ?_
      refine zr_bipush C dX11_numbers_58 (q := 60) (v := (10 : Int32)) (by decide) rfl ?_
      refine zr_iload_n C dX11_numbers_60 (q := 61) rfl 1 rfl rfl ?_
      refine zr_imul C dX11_numbers_61 (q := 62) rfl ?_
      refine zr_iload_n C dX11_numbers_62 (q := 63) rfl 2 rfl rfl ?_
      refine zr_iadd C dX11_numbers_63 (q := 64) rfl ?_
      obtain ⟨hin_64, h⟩ := zx_ck_so h
      refine zr_zald C dX11_numbers_64 (q := 65) zM_a15 hin_64 rfl ?_
      refine zr_if_eq (tgt := 89) (q := 68) C dX11_numbers_65 h (by decide) rfl (fun h => ?_) (fun h => ?_)
      · skip
        refine zr_iinc C dX11_numbers_89 (q := 92) h (by decide) 2 rfl (by decide) (lw := fun v3_9 => [(3, .int v3_9), (0, .ref (zz_d Z 0)), (2, .int v2)]) (fun _ => rfl) rfl (fun v3_9 h => ?_)
        refine zr_goto (q := 48) C dX11_numbers_92 (by decide) ?_
        exact zr_sub [1, 2, 0] rfl (ih v3_9 s h)
      · skip
        refine zr_aload_n C dX11_numbers_68 (q := 69) rfl 0 rfl rfl ?_
        refine zr_get C dX11_numbers_69 (q := 72) zM_gX11_77_0 rfl ?_
        refine zr_bipush C dX11_numbers_72 (q := 74) (v := (10 : Int32)) (by decide) rfl ?_
        refine zr_iload_n C dX11_numbers_74 (q := 75) rfl 1 rfl rfl ?_
        refine zr_imul C dX11_numbers_75 (q := 76) rfl ?_
        refine zr_iload_n C dX11_numbers_76 (q := 77) rfl 2 rfl rfl ?_
        refine zr_iadd C dX11_numbers_77 (q := 78) rfl ?_
        refine zr_aload_n C dX11_numbers_78 (q := 79) rfl 0 rfl rfl ?_
        refine zr_bipush C dX11_numbers_79 (q := 81) (v := (15 : Int32)) (by decide) rfl ?_
        refine zr_iload_n C dX11_numbers_81 (q := 82) rfl 1 rfl rfl ?_
        refine zr_iload_n C dX11_numbers_82 (q := 83) rfl 2 rfl rfl ?_
        refine zr_iconst C dX11_numbers_83 (q := 84) (v := (-1 : Int32)) (by decide) rfl ?_
        refine zr_iconst C dX11_numbers_84 (q := 85) (v := (-1 : Int32)) (by decide) rfl ?_
        obtain ⟨r5, s6, hc_85, h⟩ := zx_b2_so h
        refine zr_cvI (q := 88) C (As := [.int (15 : Int32), .int v2, .int v3, .int (-1 : Int32), .int (-1 : Int32)]) (k := 0) (rest := [.int (((10 : Int32) * v2) + v3), .ref (zz_d Z 23)]) dX11_numbers_85 (zM_ValueBenchModel_comes_met C.2.2.2.2.1 C.2.2.2.1 hc_85) zM_vX11_158 zM_o0 ⟨by decide, by decide⟩ rfl (Nat.le_of_ble_eq_true rfl) rfl rfl ?_
        obtain ⟨hin_88, h⟩ := zx_ck_so h
        refine zr_iast C dX11_numbers_88 (q := 89) zM_a23 hin_88 rfl ?_
        refine zr_ls h (fun s7 h => ?_)
        refine zr_iinc C dX11_numbers_89 (q := 92) h (by decide) 2 rfl (by decide) (lw := fun v3_8 => [(3, .int v3_8), (0, .ref (zz_d Z 0)), (2, .int v2)]) (fun _ => rfl) rfl (fun v3_8 h => ?_)
        refine zr_goto (q := 48) C dX11_numbers_92 (by decide) ?_
        exact zr_sub [1, 2, 0] rfl (ih v3_8 s7 h)
set_option maxRecDepth 100000 in
set_option maxHeartbeats 4000000 in
theorem zM_ValueBenchModel_numbers_J190_w {Z : zx_Z} (C : zx_ok zM_sd Z cX11_numbers 5 RX11 1 25) {r : zx_S} (v2 v3 t1 t3 t4 t5 t6 : Int32) (s : zx_S) {k97 : Int32 → zx_S → Option zx_S} (hr : zx_rV zM_sd Z cX11_numbers 5 r) (h97 : ∀ (a0 : Int32) (s1 : zx_S), k97 a0 s1 = some r → zW zM_sd Z 5 97 [(0, .ref (zz_d Z 0)), (2, .int v2), (3, .int a0)] [] s1) (h : zM_ValueBenchModel_numbers_J190 k97 v2 v3 t1 t3 t4 t5 t6 s = some r) : zW zM_sd Z 5 190 [(0, .ref (zz_d Z 0)), (2, .int v2), (3, .int v3)] [.int t6, .int t5, .int t4, .int t3, .ref (zz_d Z 0), .int t1, .ref (zz_d Z 24)] s := by
  unfold zM_ValueBenchModel_numbers_J190 at h
  refine zr_iload_n C dX11_numbers_190 (q := 191) rfl 2 rfl rfl ?_
  obtain ⟨r13, s14, hc_191, h⟩ := zx_b2_so h
  refine zr_cvI (q := 194) C (As := [.int t3, .int t4, .int t5, .int t6, .int v3]) (k := 0) (rest := [.int t1, .ref (zz_d Z 24)]) dX11_numbers_191 (zM_ValueBenchModel_comes_met C.2.2.2.2.1 C.2.2.2.1 hc_191) zM_vX11_158 zM_o0 ⟨by decide, by decide⟩ rfl (Nat.le_of_ble_eq_true rfl) rfl rfl ?_
  obtain ⟨hin_194, h⟩ := zx_ck_so h
  refine zr_iast C dX11_numbers_194 (q := 195) zM_a24 hin_194 rfl ?_
  refine zr_ls h (fun s15 h => ?_)
  refine zr_iinc C dX11_numbers_195 (q := 198) h (by decide) 2 rfl (by decide) (lw := fun v3_16 => [(3, .int v3_16), (0, .ref (zz_d Z 0)), (2, .int v2)]) (fun _ => rfl) rfl (fun v3_16 h => ?_)
  refine zr_goto (q := 97) C dX11_numbers_198 (by decide) ?_
  exact zr_sub [1, 2, 0] rfl (h97 v3_16 s15 h)
set_option maxRecDepth 100000 in
set_option maxHeartbeats 4000000 in
theorem zM_ValueBenchModel_numbers_L97_w {Z : zx_Z} (C : zx_ok zM_sd Z cX11_numbers 5 RX11 1 25) {r : zx_S} (v2 : Int32) {k201 : zx_S → Option zx_S} (hr : zx_rV zM_sd Z cX11_numbers 5 r) (h201 : ∀ (s1 : zx_S), k201 s1 = some r → zW zM_sd Z 5 201 [(0, .ref (zz_d Z 0)), (2, .int v2)] [] s1) : ∀ (n : Nat) (v3 : Int32) (s : zx_S), zM_ValueBenchModel_numbers_L97 v2 k201 n v3 s = some r → zW zM_sd Z 5 97 [(0, .ref (zz_d Z 0)), (2, .int v2), (3, .int v3)] [] s := by
  intro n
  induction n with
  | zero => intro v3 s h; unfold zM_ValueBenchModel_numbers_L97 at h; cases h
  | succ n ih =>
    intro v3 s h
    unfold zM_ValueBenchModel_numbers_L97 at h
    refine zr_iload_n C dX11_numbers_97 (q := 98) rfl 2 rfl rfl ?_
    refine zr_aload_n C dX11_numbers_98 (q := 99) rfl 0 rfl rfl ?_
    refine zr_get C dX11_numbers_99 (q := 102) zM_gX11_22_0 rfl ?_
    refine zr_iload_n C dX11_numbers_102 (q := 103) rfl 1 rfl rfl ?_
    obtain ⟨hin_103, h⟩ := zx_ck_so h
    refine zr_iald C dX11_numbers_103 (q := 104) zM_a5 hin_103 rfl ?_
    refine zr_icmp_ge (tgt := 201) (q := 107) C dX11_numbers_104 h (by decide) rfl (fun h => ?_) (fun h => ?_)
    · skip
      exact zr_sub [0, 1] rfl (h201 s h)
    · skip
      refine zr_bipush C dX11_numbers_107 (q := 109) (v := (100 : Int32)) (by decide) rfl ?_
      refine zr_iload_n C dX11_numbers_109 (q := 110) rfl 1 rfl rfl ?_
      refine zr_imul C dX11_numbers_110 (q := 111) rfl ?_
      refine zr_iload_n C dX11_numbers_111 (q := 112) rfl 2 rfl rfl ?_
      refine zr_iadd C dX11_numbers_112 (q := 113) rfl ?_
      refine zr_top h (fun v4_11 h => ?_)
      refine zr_istore C dX11_numbers_113 (q := 115) (by decide) (lv' := [(4, .int v4_11), (0, .ref (zz_d Z 0)), (2, .int v2), (3, .int v3)]) rfl rfl ?_
      refine zr_aload_n C dX11_numbers_115 (q := 116) rfl 1 rfl rfl ?_
      refine zr_get C dX11_numbers_116 (q := 119) zM_gX11_80_0 rfl ?_
      refine zr_iload C dX11_numbers_119 (q := 121) 0 rfl rfl ?_
      refine zr_iconst C dX11_numbers_121 (q := 122) (v := (-1 : Int32)) (by decide) rfl ?_
      obtain ⟨hin_122, h⟩ := zx_ck_so h
      refine zr_iast C dX11_numbers_122 (q := 123) zM_a24 hin_122 rfl ?_
      refine zr_ls h (fun s12 h => ?_)
      refine zr_aload_n C dX11_numbers_123 (q := 124) rfl 1 rfl rfl ?_
      refine zr_get C dX11_numbers_124 (q := 127) zM_gX11_7_0 rfl ?_
      refine zr_iload C dX11_numbers_127 (q := 129) 0 rfl rfl ?_
      obtain ⟨hin_129, h⟩ := zx_ck_so h
      refine zr_iald C dX11_numbers_129 (q := 130) zM_a1 hin_129 rfl ?_
      refine zr_iconst C dX11_numbers_130 (q := 131) (v := (2 : Int32)) (by decide) rfl ?_
      refine zr_icmp_eq (tgt := 195) (q := 134) C dX11_numbers_131 h (by decide) rfl (fun h => ?_) (fun h => ?_)
      · skip
        refine zr_iinc C dX11_numbers_195 (q := 198) h (by decide) 3 rfl (by decide) (lw := fun v3_18 => [(3, .int v3_18), (4, .int v4_11), (0, .ref (zz_d Z 0)), (2, .int v2)]) (fun _ => rfl) rfl (fun v3_18 h => ?_)
        refine zr_goto (q := 97) C dX11_numbers_198 (by decide) ?_
        exact zr_sub [2, 3, 0] rfl (ih v3_18 s12 h)
      · skip
        refine zr_aload_n C dX11_numbers_134 (q := 135) rfl 1 rfl rfl ?_
        refine zr_get C dX11_numbers_135 (q := 138) zM_gX11_7_0 rfl ?_
        refine zr_iload C dX11_numbers_138 (q := 140) 0 rfl rfl ?_
        obtain ⟨hin_140, h⟩ := zx_ck_so h
        refine zr_iald C dX11_numbers_140 (q := 141) zM_a1 hin_140 rfl ?_
        refine zr_bipush C dX11_numbers_141 (q := 143) (v := (14 : Int32)) (by decide) rfl ?_
        refine zr_icmp_eq (tgt := 195) (q := 146) C dX11_numbers_143 h (by decide) rfl (fun h => ?_) (fun h => ?_)
        · skip
          refine zr_iinc C dX11_numbers_195 (q := 198) h (by decide) 3 rfl (by decide) (lw := fun v3_17 => [(3, .int v3_17), (4, .int v4_11), (0, .ref (zz_d Z 0)), (2, .int v2)]) (fun _ => rfl) rfl (fun v3_17 h => ?_)
          refine zr_goto (q := 97) C dX11_numbers_198 (by decide) ?_
          exact zr_sub [2, 3, 0] rfl (ih v3_17 s12 h)
        · skip
          refine zr_aload_n C dX11_numbers_146 (q := 147) rfl 1 rfl rfl ?_
          refine zr_get C dX11_numbers_147 (q := 150) zM_gX11_80_0 rfl ?_
          refine zr_iload C dX11_numbers_150 (q := 152) 0 rfl rfl ?_
          refine zr_aload_n C dX11_numbers_152 (q := 153) rfl 1 rfl rfl ?_
          refine zr_aload_n C dX11_numbers_153 (q := 154) rfl 1 rfl rfl ?_
          refine zr_get C dX11_numbers_154 (q := 157) zM_gX11_7_0 rfl ?_
          refine zr_iload C dX11_numbers_157 (q := 159) 0 rfl rfl ?_
          obtain ⟨hin_159, h⟩ := zx_ck_so h
          refine zr_iald C dX11_numbers_159 (q := 160) zM_a1 hin_159 rfl ?_
          refine zr_iload_n C dX11_numbers_160 (q := 161) rfl 2 rfl rfl ?_
          refine zr_aload_n C dX11_numbers_161 (q := 162) rfl 1 rfl rfl ?_
          refine zr_get C dX11_numbers_162 (q := 165) zM_gX11_13_0 rfl ?_
          refine zr_iload C dX11_numbers_165 (q := 167) 0 rfl rfl ?_
          obtain ⟨hin_167, h⟩ := zx_ck_so h
          refine zr_iald C dX11_numbers_167 (q := 168) zM_a2 hin_167 rfl ?_
          refine zr_aload_n C dX11_numbers_168 (q := 169) rfl 1 rfl rfl ?_
          refine zr_get C dX11_numbers_169 (q := 172) zM_gX11_7_0 rfl ?_
          refine zr_iload C dX11_numbers_172 (q := 174) 0 rfl rfl ?_
          obtain ⟨hin_174, h⟩ := zx_ck_so h
          refine zr_iald C dX11_numbers_174 (q := 175) zM_a1 hin_174 rfl ?_
          refine zr_iconst C dX11_numbers_175 (q := 176) (v := (2 : Int32)) (by decide) rfl ?_
          refine zr_icmp_ge (tgt := 189) (q := 179) C dX11_numbers_176 h (by decide) rfl (fun h => ?_) (fun h => ?_)
          · skip
            refine zr_iconst C dX11_numbers_189 (q := 190) (v := (-1 : Int32)) (by decide) rfl ?_
            exact zr_sub [1, 2, 3] rfl (zM_ValueBenchModel_numbers_J190_w C v2 v3 v4_11 (s12 1 (v4_11).toNatClampNeg) v2 (s12 2 (v4_11).toNatClampNeg) (-1 : Int32) s12 hr (ih) h)
          · skip
            refine zr_aload_n C dX11_numbers_179 (q := 180) rfl 1 rfl rfl ?_
            refine zr_get C dX11_numbers_180 (q := 183) zM_gX11_16_0 rfl ?_
            refine zr_iload C dX11_numbers_183 (q := 185) 0 rfl rfl ?_
            obtain ⟨hin_185, h⟩ := zx_ck_so h
            refine zr_iald C dX11_numbers_185 (q := 186) zM_a3 hin_185 rfl ?_
            refine zr_goto (q := 190) C dX11_numbers_186 (by decide) ?_
            exact zr_sub [1, 2, 3] rfl (zM_ValueBenchModel_numbers_J190_w C v2 v3 v4_11 (s12 1 (v4_11).toNatClampNeg) v2 (s12 2 (v4_11).toNatClampNeg) (s12 3 (v4_11).toNatClampNeg) s12 hr (ih) h)
set_option maxRecDepth 100000 in
set_option maxHeartbeats 4000000 in
theorem zM_ValueBenchModel_numbers_L26_w {Z : zx_Z} (C : zx_ok zM_sd Z cX11_numbers 5 RX11 1 25) {r : zx_S} {k207 : zx_S → Option zx_S} (hr : zx_rV zM_sd Z cX11_numbers 5 r) (h207 : ∀ (s1 : zx_S), k207 s1 = some r → zW zM_sd Z 5 207 [] [] s1) : ∀ (n : Nat) (v2 : Int32) (s : zx_S), zM_ValueBenchModel_numbers_L26 k207 n v2 s = some r → zW zM_sd Z 5 26 [(0, .ref (zz_d Z 0)), (2, .int v2)] [] s := by
  intro n
  induction n with
  | zero => intro v2 s h; unfold zM_ValueBenchModel_numbers_L26 at h; cases h
  | succ n ih =>
    intro v2 s h
    unfold zM_ValueBenchModel_numbers_L26 at h
    refine zr_iload_n C dX11_numbers_26 (q := 27) rfl 1 rfl rfl ?_
    refine zr_aload_n C dX11_numbers_27 (q := 28) rfl 0 rfl rfl ?_
    refine zr_get C dX11_numbers_28 (q := 31) zM_gX11_120_0 rfl ?_
    refine zr_icmp_ge (tgt := 207) (q := 34) C dX11_numbers_31 h (by decide) rfl (fun h => ?_) (fun h => ?_)
    · skip
      exact zr_sub [] rfl (h207 s h)
    · skip
      refine zr_aload_n C dX11_numbers_34 (q := 35) rfl 0 rfl rfl ?_
      refine zr_get C dX11_numbers_35 (q := 38) zM_gX11_37_0 rfl ?_
      refine zr_iload_n C dX11_numbers_38 (q := 39) rfl 1 rfl rfl ?_
      obtain ⟨hin_39, h⟩ := zx_ck_so h
      refine zr_zald C dX11_numbers_39 (q := 40) zM_a10 hin_39 rfl ?_
      refine zr_if_ne (tgt := 46) (q := 43) C dX11_numbers_40 h (by decide) rfl (fun h => ?_) (fun h => ?_)
      · skip
        refine zr_iconst C dX11_numbers_46 (q := 47) (v := (0 : Int32)) (by decide) rfl ?_
        refine zr_istore_n C dX11_numbers_47 (q := 48) rfl (by decide) (lv' := [(3, .int (0 : Int32)), (0, .ref (zz_d Z 0)), (2, .int v2)]) rfl rfl ?_
        refine zr_sub [1, 2, 0] rfl (zM_ValueBenchModel_numbers_L48_w C v2 hr (fun s10 h => ?_) 10000 (0 : Int32) s h)
        · skip
          refine zr_iconst C dX11_numbers_95 (q := 96) (v := (0 : Int32)) (by decide) rfl ?_
          refine zr_istore_n C dX11_numbers_96 (q := 97) rfl (by decide) (lv' := [(3, .int (0 : Int32)), (0, .ref (zz_d Z 0)), (2, .int v2)]) rfl rfl ?_
          refine zr_sub [1, 2, 0] rfl (zM_ValueBenchModel_numbers_L97_w C v2 hr (fun s19 h => ?_) 10000 (0 : Int32) s10 h)
          · skip
            refine zr_iinc C dX11_numbers_201 (q := 204) h (by decide) 1 rfl (by decide) (lw := fun v2_20 => [(2, .int v2_20), (0, .ref (zz_d Z 0))]) (fun _ => rfl) rfl (fun v2_20 h => ?_)
            refine zr_goto (q := 26) C dX11_numbers_204 (by decide) ?_
            exact zr_sub [1, 0] rfl (ih v2_20 s19 h)
      · skip
        refine zr_goto (q := 201) C dX11_numbers_43 (by decide) ?_
        refine zr_iinc C dX11_numbers_201 (q := 204) h (by decide) 1 rfl (by decide) (lw := fun v2_4 => [(2, .int v2_4), (0, .ref (zz_d Z 0))]) (fun _ => rfl) rfl (fun v2_4 h => ?_)
        refine zr_goto (q := 26) C dX11_numbers_204 (by decide) ?_
        exact zr_sub [1, 0] rfl (ih v2_4 s h)
set_option maxRecDepth 100000 in
set_option maxHeartbeats 4000000 in
theorem zM_ValueBenchModel_numbers_w {Z : zx_Z} (C : zx_ok zM_sd Z cX11_numbers 5 RX11 1 25) {r : zx_S} (s : zx_S) (hr : zx_rV zM_sd Z cX11_numbers 5 r) (h : zM_ValueBenchModel_numbers s = some r) : zW zM_sd Z 5 0 [(0, .ref (zz_d Z 0))] [] s := by
  unfold zM_ValueBenchModel_numbers at h
  refine zr_aload_n C dX11_numbers_0 (q := 1) rfl 0 rfl rfl ?_
  refine zr_iconst C dX11_numbers_1 (q := 2) (v := (0 : Int32)) (by decide) rfl ?_
  refine zr_put C dX11_numbers_2 (q := 5) zM_pX11_155_0 rfl rfl rfl ?_
  refine zr_ls h (fun s1 h => ?_)
  refine zr_aload_n C dX11_numbers_5 (q := 6) rfl 0 rfl rfl ?_
  refine zr_get C dX11_numbers_6 (q := 9) zM_gX11_120_0 rfl ?_
  refine zr_if_ne (tgt := 13) (q := 12) C dX11_numbers_9 h (by decide) rfl (fun h => ?_) (fun h => ?_)
  · skip
    refine zr_aload_n C dX11_numbers_13 (q := 14) rfl 0 rfl rfl ?_
    refine zr_iconst C dX11_numbers_14 (q := 15) (v := (0 : Int32)) (by decide) rfl ?_
    refine zr_iconst C dX11_numbers_15 (q := 16) (v := (0 : Int32)) (by decide) rfl ?_
    refine zr_iconst C dX11_numbers_16 (q := 17) (v := (-1 : Int32)) (by decide) rfl ?_
    refine zr_iconst C dX11_numbers_17 (q := 18) (v := (0 : Int32)) (by decide) rfl ?_
    refine zr_bipush C dX11_numbers_18 (q := 20) (v := (-2 : Int32)) (by decide) rfl ?_
    obtain ⟨r2, s3, hc_20, h⟩ := zx_b2_so h
    refine zr_cvI (q := 23) C (As := [.int (0 : Int32), .int (0 : Int32), .int (-1 : Int32), .int (0 : Int32), .int (-2 : Int32)]) (k := 0) (rest := []) dX11_numbers_20 (zM_ValueBenchModel_comes_met C.2.2.2.2.1 C.2.2.2.1 hc_20) zM_vX11_158 zM_o0 ⟨by decide, by decide⟩ rfl (Nat.le_of_ble_eq_true rfl) rfl rfl ?_
    refine zr_istore_n C dX11_numbers_23 (q := 24) rfl (by decide) (lv' := [(1, .int r2), (0, .ref (zz_d Z 0))]) rfl rfl ?_
    refine zr_iconst C dX11_numbers_24 (q := 25) (v := (0 : Int32)) (by decide) rfl ?_
    refine zr_istore_n C dX11_numbers_25 (q := 26) rfl (by decide) (lv' := [(2, .int (0 : Int32)), (1, .int r2), (0, .ref (zz_d Z 0))]) rfl rfl ?_
    refine zr_sub [2, 0] rfl (zM_ValueBenchModel_numbers_L26_w C hr (fun s21 h => ?_) 10000 (0 : Int32) s3 h)
    · skip
      exact zr_retV dX11_numbers_207 h hr
  · skip
    exact zr_retV dX11_numbers_12 h hr
theorem zM_ValueBenchModel_numbers_met {l : Launch} {D : va_G} {cz : ClassId × ClassId} {ad : Nat → Nat} (hS : zx_So zM_sd) (hi : zx_I zM_sd ad) {s : zx_S} {s1 : zx_S} (h : zM_ValueBenchModel_numbers s = some s1) : zx_MV zM_sd l D cz ad yX11_numbers cX11_numbers 5 1 25 [.ref (ad 0)] s s1 := zx_metV hS hi (by decide +kernel) rfl (Nat.le_of_ble_eq_true rfl) (fun Z e1 e2 e3 e4 C hr => by subst e1 e2 e3 e4; exact zM_ValueBenchModel_numbers_w C s hr h)
set_option maxRecDepth 100000 in
set_option maxHeartbeats 4000000 in
theorem zM_ValueBenchModel_adds_w {Z : zx_Z} (C : zx_ok zM_sd Z cX11_adds 3 RX11 0 0) {r : zx_S} (p1 p2 : Int32) (s : zx_S) (hr : zx_rV zM_sd Z cX11_adds 3 r) (h : zM_ValueBenchModel_adds p1 p2 s = some r) : zW zM_sd Z 3 0 [(0, .ref (zz_d Z 0)), (1, .int p1), (2, .int p2)] [] s := by
  unfold zM_ValueBenchModel_adds at h
  refine zr_aload_n C dX11_adds_0 (q := 1) rfl 0 rfl rfl ?_
  refine zr_get C dX11_adds_1 (q := 4) zM_gX11_71_0 rfl ?_
  refine zr_bipush C dX11_adds_4 (q := 6) (v := (20 : Int32)) (by decide) rfl ?_
  refine zr_iload_n C dX11_adds_6 (q := 7) rfl 1 rfl rfl ?_
  refine zr_imul C dX11_adds_7 (q := 8) rfl ?_
  refine zr_aload_n C dX11_adds_8 (q := 9) rfl 0 rfl rfl ?_
  refine zr_get C dX11_adds_9 (q := 12) zM_gX11_74_0 rfl ?_
  refine zr_iload_n C dX11_adds_12 (q := 13) rfl 1 rfl rfl ?_
  obtain ⟨hin_13, h⟩ := zx_ck_so h
  refine zr_iald C dX11_adds_13 (q := 14) zM_a22 hin_13 rfl ?_
  refine zr_iadd C dX11_adds_14 (q := 15) rfl ?_
  refine zr_iload_n C dX11_adds_15 (q := 16) rfl 2 rfl rfl ?_
  obtain ⟨hin_16, h⟩ := zx_ck_so h
  refine zr_iast C dX11_adds_16 (q := 17) zM_a21 hin_16 rfl ?_
  refine zr_ls h (fun s1 h => ?_)
  refine zr_aload_n C dX11_adds_17 (q := 18) rfl 0 rfl rfl ?_
  refine zr_get C dX11_adds_18 (q := 21) zM_gX11_74_0 rfl ?_
  refine zr_iload_n C dX11_adds_21 (q := 22) rfl 1 rfl rfl ?_
  refine zr_dup2 C dX11_adds_22 (q := 23) rfl rfl rfl ?_
  obtain ⟨hin_23, h⟩ := zx_ck_so h
  refine zr_iald C dX11_adds_23 (q := 24) zM_a22 hin_23 rfl ?_
  refine zr_iconst C dX11_adds_24 (q := 25) (v := (1 : Int32)) (by decide) rfl ?_
  refine zr_iadd C dX11_adds_25 (q := 26) rfl ?_
  refine zr_top h (fun x2 h => ?_)
  obtain ⟨hin_26, h⟩ := zx_ck_so h
  refine zr_iast C dX11_adds_26 (q := 27) zM_a22 hin_26 rfl ?_
  refine zr_ls h (fun s3 h => ?_)
  exact zr_retV dX11_adds_27 h hr
theorem zM_ValueBenchModel_adds_met {l : Launch} {D : va_G} {cz : ClassId × ClassId} {ad : Nat → Nat} (hS : zx_So zM_sd) (hi : zx_I zM_sd ad) {p1 p2 : Int32} {s : zx_S} {s1 : zx_S} (h : zM_ValueBenchModel_adds p1 p2 s = some s1) : zx_MV zM_sd l D cz ad yX11_adds cX11_adds 3 0 0 [.ref (ad 0), .int p1, .int p2] s s1 := zx_metV hS hi (by decide +kernel) rfl (Nat.le_of_ble_eq_true rfl) (fun Z e1 e2 e3 e4 C hr => by subst e1 e2 e3 e4; exact zM_ValueBenchModel_adds_w C p1 p2 s hr h)
