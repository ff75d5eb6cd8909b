set_option maxRecDepth 100000 in
set_option maxHeartbeats 4000000 in
theorem zM_ValueBenchModel_through_J132_w {Z : zx_Z} (C : zx_ok zM_sd Z cX11_through 6 RX11 1 22) {r : zx_S} (v1 v2 v3 v4 v5 : Int32) (s : zx_S) {k3 : Int32 → zx_S → Option zx_S} (hr : zx_rV zM_sd Z cX11_through 6 r) (h3 : ∀ (a0 : Int32) (s1 : zx_S), k3 a0 s1 = some r → zW zM_sd Z 6 3 [(0, .ref (zz_d Z 0)), (1, .int v1), (2, .int v2), (3, .int v3), (4, .int a0)] [] s1) (h : zM_ValueBenchModel_through_J132 k3 v1 v2 v3 v4 v5 s = some r) : zW zM_sd Z 6 132 [(0, .ref (zz_d Z 0)), (1, .int v1), (2, .int v2), (3, .int v3), (4, .int v4), (5, .int v5)] [] s := by
  unfold zM_ValueBenchModel_through_J132 at h
  refine zr_aload_n C dX11_through_132 (q := 133) rfl 0 rfl rfl ?_
  refine zr_get C dX11_through_133 (q := 136) zM_gX11_89_0 rfl ?_
  refine zr_aload_n C dX11_through_136 (q := 137) rfl 0 rfl rfl ?_
  refine zr_get C dX11_through_137 (q := 140) zM_gX11_13_0 rfl ?_
  refine zr_iload C dX11_through_140 (q := 142) 5 rfl rfl ?_
  obtain ⟨hin_142, h⟩ := zx_ck_so h
  refine zr_iald C dX11_through_142 (q := 143) zM_a2 hin_142 rfl ?_
  refine zr_aload_n C dX11_through_143 (q := 144) rfl 0 rfl rfl ?_
  refine zr_get C dX11_through_144 (q := 147) zM_gX11_80_0 rfl ?_
  refine zr_iload C dX11_through_147 (q := 149) 5 rfl rfl ?_
  obtain ⟨hin_149, h⟩ := zx_ck_so h
  refine zr_iald C dX11_through_149 (q := 150) zM_a24 hin_149 rfl ?_
  refine zr_top h (fun x6 h => ?_)
  obtain ⟨hin_150, h⟩ := zx_ck_so h
  refine zr_iast C dX11_through_150 (q := 151) zM_a27 hin_150 rfl ?_
  refine zr_ls h (fun s7 h => ?_)
  refine zr_iinc C dX11_through_151 (q := 154) h (by decide) 4 rfl (by decide) (lw := fun v4_8 => [(4, .int v4_8), (0, .ref (zz_d Z 0)), (1, .int v1), (2, .int v2), (3, .int v3), (5, .int v5)]) (fun _ => rfl) rfl (fun v4_8 h => ?_)
  refine zr_goto (q := 3) C dX11_through_154 (by decide) ?_
  exact zr_sub [1, 2, 3, 4, 0] rfl (h3 v4_8 s7 h)
set_option maxRecDepth 100000 in
set_option maxHeartbeats 4000000 in
theorem zM_ValueBenchModel_through_L3_w {Z : zx_Z} (C : zx_ok zM_sd Z cX11_through 6 RX11 1 22) {r : zx_S} (v1 v2 v3 : Int32) {k157 : zx_S → Option zx_S} (hr : zx_rV zM_sd Z cX11_through 6 r) (h157 : ∀ (s1 : zx_S), k157 s1 = some r → zW zM_sd Z 6 157 [] [] s1) : ∀ (n : Nat) (v4 : Int32) (s : zx_S), zM_ValueBenchModel_through_L3 v1 v2 v3 k157 n v4 s = some r → zW zM_sd Z 6 3 [(0, .ref (zz_d Z 0)), (1, .int v1), (2, .int v2), (3, .int v3), (4, .int v4)] [] s := by
  intro n
  induction n with
  | zero => intro v4 s h; unfold zM_ValueBenchModel_through_L3 at h; cases h
  | succ n ih =>
    intro v4 s h
    unfold zM_ValueBenchModel_through_L3 at h
    refine zr_iload C dX11_through_3 (q := 5) 4 rfl rfl ?_
    refine zr_iload_n C dX11_through_5 (q := 6) rfl 2 rfl rfl ?_
    refine zr_icmp_ge (tgt := 157) (q := 9) C dX11_through_6 h (by decide) rfl (fun h => ?_) (fun h => ?_)
    · skip
      exact zr_sub [] rfl (h157 s h)
    · skip
      refine zr_bipush C dX11_through_9 (q := 11) (v := (100 : Int32)) (by decide) rfl ?_
      refine zr_iload_n C dX11_through_11 (q := 12) rfl 1 rfl rfl ?_
      refine zr_imul C dX11_through_12 (q := 13) rfl ?_
      refine zr_iload C dX11_through_13 (q := 15) 4 rfl rfl ?_
      refine zr_iadd C dX11_through_15 (q := 16) rfl ?_
      refine zr_top h (fun v5_1 h => ?_)
      refine zr_istore C dX11_through_16 (q := 18) (by decide) (lv' := [(5, .int v5_1), (0, .ref (zz_d Z 0)), (1, .int v1), (2, .int v2), (3, .int v3), (4, .int v4)]) rfl rfl ?_
      refine zr_aload_n C dX11_through_18 (q := 19) rfl 1 rfl rfl ?_
      refine zr_get C dX11_through_19 (q := 22) zM_gX11_7_0 rfl ?_
      refine zr_iload C dX11_through_22 (q := 24) 0 rfl rfl ?_
      obtain ⟨hin_24, h⟩ := zx_ck_so h
      refine zr_iald C dX11_through_24 (q := 25) zM_a1 hin_24 rfl ?_
      refine zr_bipush C dX11_through_25 (q := 27) (v := (14 : Int32)) (by decide) rfl ?_
      refine zr_icmp_ne (tgt := 33) (q := 30) C dX11_through_27 h (by decide) rfl (fun h => ?_) (fun h => ?_)
      · skip
        refine zr_aload_n C dX11_through_33 (q := 34) rfl 1 rfl rfl ?_
        refine zr_get C dX11_through_34 (q := 37) zM_gX11_7_0 rfl ?_
        refine zr_iload C dX11_through_37 (q := 39) 0 rfl rfl ?_
        obtain ⟨hin_39, h⟩ := zx_ck_so h
        refine zr_iald C dX11_through_39 (q := 40) zM_a1 hin_39 rfl ?_
        refine zr_iconst C dX11_through_40 (q := 41) (v := (2 : Int32)) (by decide) rfl ?_
        refine zr_icmp_ne (tgt := 71) (q := 44) C dX11_through_41 h (by decide) rfl (fun h => ?_) (fun h => ?_)
        · skip
          refine zr_iload_n C dX11_through_71 (q := 72) rfl 4 rfl rfl ?_
          refine zr_if_eq (tgt := 132) (q := 75) C dX11_through_72 h (by decide) rfl (fun h => ?_) (fun h => ?_)
          · skip
            exact zr_sub [1, 2, 3, 4, 5, 0] rfl (zM_ValueBenchModel_through_J132_w C v1 v2 v3 v4 v5_1 s hr (ih) h)
          · skip
            refine zr_aload_n C dX11_through_75 (q := 76) rfl 1 rfl rfl ?_
            refine zr_get C dX11_through_76 (q := 79) zM_gX11_7_0 rfl ?_
            refine zr_iload C dX11_through_79 (q := 81) 0 rfl rfl ?_
            obtain ⟨hin_81, h⟩ := zx_ck_so h
            refine zr_iald C dX11_through_81 (q := 82) zM_a1 hin_81 rfl ?_
            refine zr_iconst C dX11_through_82 (q := 83) (v := (3 : Int32)) (by decide) rfl ?_
            refine zr_icmp_lt (tgt := 132) (q := 86) C dX11_through_83 h (by decide) rfl (fun h => ?_) (fun h => ?_)
            · skip
              exact zr_sub [1, 2, 3, 4, 5, 0] rfl (zM_ValueBenchModel_through_J132_w C v1 v2 v3 v4 v5_1 s hr (ih) h)
            · skip
              refine zr_aload_n C dX11_through_86 (q := 87) rfl 1 rfl rfl ?_
              refine zr_aload_n C dX11_through_87 (q := 88) rfl 1 rfl rfl ?_
              refine zr_get C dX11_through_88 (q := 91) zM_gX11_80_0 rfl ?_
              refine zr_iload C dX11_through_91 (q := 93) 0 rfl rfl ?_
              obtain ⟨hin_93, h⟩ := zx_ck_so h
              refine zr_iald C dX11_through_93 (q := 94) zM_a24 hin_93 rfl ?_
              refine zr_aload_n C dX11_through_94 (q := 95) rfl 1 rfl rfl ?_
              refine zr_get C dX11_through_95 (q := 98) zM_gX11_89_0 rfl ?_
              refine zr_aload_n C dX11_through_98 (q := 99) rfl 1 rfl rfl ?_
              refine zr_get C dX11_through_99 (q := 102) zM_gX11_16_0 rfl ?_
              refine zr_iload C dX11_through_102 (q := 104) 0 rfl rfl ?_
              obtain ⟨hin_104, h⟩ := zx_ck_so h
              refine zr_iald C dX11_through_104 (q := 105) zM_a3 hin_104 rfl ?_
              obtain ⟨hin_105, h⟩ := zx_ck_so h
              refine zr_iald C dX11_through_105 (q := 106) zM_a27 hin_105 rfl ?_
              obtain ⟨s9, hc_106, h⟩ := zx_b1_so h
              refine zr_cvV (q := 109) C (As := [.int (s 24 (v5_1).toNatClampNeg), .int (s 27 ((s 3 (v5_1).toNatClampNeg)).toNatClampNeg)]) (k := 0) (rest := []) dX11_through_106 (zM_ValueBenchModel_adds_met C.2.2.2.2.1 C.2.2.2.1 hc_106) zM_vX11_166 zM_o0 ⟨by decide, by decide⟩ rfl (Nat.le_of_ble_eq_true rfl) rfl rfl ?_
              refine zr_aload_n C dX11_through_109 (q := 110) rfl 1 rfl rfl ?_
              refine zr_aload_n C dX11_through_110 (q := 111) rfl 1 rfl rfl ?_
              refine zr_get C dX11_through_111 (q := 114) zM_gX11_80_0 rfl ?_
              refine zr_iload C dX11_through_114 (q := 116) 0 rfl rfl ?_
              obtain ⟨hin_116, h⟩ := zx_ck_so h
              refine zr_iald C dX11_through_116 (q := 117) zM_a24 hin_116 rfl ?_
              refine zr_aload_n C dX11_through_117 (q := 118) rfl 1 rfl rfl ?_
              refine zr_get C dX11_through_118 (q := 121) zM_gX11_89_0 rfl ?_
              refine zr_aload_n C dX11_through_121 (q := 122) rfl 1 rfl rfl ?_
              refine zr_get C dX11_through_122 (q := 125) zM_gX11_19_0 rfl ?_
              refine zr_iload C dX11_through_125 (q := 127) 0 rfl rfl ?_
              obtain ⟨hin_127, h⟩ := zx_ck_so h
              refine zr_iald C dX11_through_127 (q := 128) zM_a4 hin_127 rfl ?_
              obtain ⟨hin_128, h⟩ := zx_ck_so h
              refine zr_iald C dX11_through_128 (q := 129) zM_a27 hin_128 rfl ?_
              obtain ⟨s10, hc_129, h⟩ := zx_b1_so h
              refine zr_cvV (q := 132) C (As := [.int (s9 24 (v5_1).toNatClampNeg), .int (s9 27 ((s9 4 (v5_1).toNatClampNeg)).toNatClampNeg)]) (k := 0) (rest := []) dX11_through_129 (zM_ValueBenchModel_adds_met C.2.2.2.2.1 C.2.2.2.1 hc_129) zM_vX11_166 zM_o0 ⟨by decide, by decide⟩ rfl (Nat.le_of_ble_eq_true rfl) rfl rfl ?_
              exact zr_sub [1, 2, 3, 4, 5, 0] rfl (zM_ValueBenchModel_through_J132_w C v1 v2 v3 v4 v5_1 s10 hr (ih) h)
        · skip
          refine zr_aload_n C dX11_through_44 (q := 45) rfl 1 rfl rfl ?_
          refine zr_get C dX11_through_45 (q := 48) zM_gX11_89_0 rfl ?_
          refine zr_aload_n C dX11_through_48 (q := 49) rfl 1 rfl rfl ?_
          refine zr_get C dX11_through_49 (q := 52) zM_gX11_13_0 rfl ?_
          refine zr_iload C dX11_through_52 (q := 54) 0 rfl rfl ?_
          obtain ⟨hin_54, h⟩ := zx_ck_so h
          refine zr_iald C dX11_through_54 (q := 55) zM_a2 hin_54 rfl ?_
          refine zr_aload_n C dX11_through_55 (q := 56) rfl 1 rfl rfl ?_
          refine zr_get C dX11_through_56 (q := 59) zM_gX11_89_0 rfl ?_
          refine zr_aload_n C dX11_through_59 (q := 60) rfl 1 rfl rfl ?_
          refine zr_get C dX11_through_60 (q := 63) zM_gX11_16_0 rfl ?_
          refine zr_iload C dX11_through_63 (q := 65) 0 rfl rfl ?_
          obtain ⟨hin_65, h⟩ := zx_ck_so h
          refine zr_iald C dX11_through_65 (q := 66) zM_a3 hin_65 rfl ?_
          obtain ⟨hin_66, h⟩ := zx_ck_so h
          refine zr_iald C dX11_through_66 (q := 67) zM_a27 hin_66 rfl ?_
          refine zr_top h (fun x3 h => ?_)
          obtain ⟨hin_67, h⟩ := zx_ck_so h
          refine zr_iast C dX11_through_67 (q := 68) zM_a27 hin_67 rfl ?_
          refine zr_ls h (fun s4 h => ?_)
          refine zr_goto (q := 151) C dX11_through_68 (by decide) ?_
          refine zr_iinc C dX11_through_151 (q := 154) h (by decide) 5 rfl (by decide) (lw := fun v4_5 => [(4, .int v4_5), (5, .int v5_1), (0, .ref (zz_d Z 0)), (1, .int v1), (2, .int v2), (3, .int v3)]) (fun _ => rfl) rfl (fun v4_5 h => ?_)
          refine zr_goto (q := 3) C dX11_through_154 (by decide) ?_
          exact zr_sub [2, 3, 4, 5, 0] rfl (ih v4_5 s4 h)
      · skip
        refine zr_goto (q := 151) C dX11_through_30 (by decide) ?_
        refine zr_iinc C dX11_through_151 (q := 154) h (by decide) 5 rfl (by decide) (lw := fun v4_2 => [(4, .int v4_2), (5, .int v5_1), (0, .ref (zz_d Z 0)), (1, .int v1), (2, .int v2), (3, .int v3)]) (fun _ => rfl) rfl (fun v4_2 h => ?_)
        refine zr_goto (q := 3) C dX11_through_154 (by decide) ?_
        exact zr_sub [2, 3, 4, 5, 0] rfl (ih v4_2 s h)
set_option maxRecDepth 100000 in
set_option maxHeartbeats 4000000 in
theorem zM_ValueBenchModel_through_w {Z : zx_Z} (C : zx_ok zM_sd Z cX11_through 6 RX11 1 22) {r : zx_S} (p1 p2 p3 : Int32) (s : zx_S) (hr : zx_rV zM_sd Z cX11_through 6 r) (h : zM_ValueBenchModel_through p1 p2 p3 s = some r) : zW zM_sd Z 6 0 [(0, .ref (zz_d Z 0)), (1, .int p1), (2, .int p2), (3, .int p3)] [] s := by
  unfold zM_ValueBenchModel_through at h
  refine zr_iconst C dX11_through_0 (q := 1) (v := (0 : Int32)) (by decide) rfl ?_
  refine zr_istore C dX11_through_1 (q := 3) (by decide) (lv' := [(4, .int (0 : Int32)), (0, .ref (zz_d Z 0)), (1, .int p1), (2, .int p2), (3, .int p3)]) rfl rfl ?_
  refine zr_sub [1, 2, 3, 4, 0] rfl (zM_ValueBenchModel_through_L3_w C p1 p2 p3 hr (fun s11 h => ?_) 10000 (0 : Int32) s h)
  · skip
    exact zr_retV dX11_through_157 h hr
theorem zM_ValueBenchModel_through_met {l : Launch} {D : va_G} {cz : ClassId × ClassId} {ad : Nat → Nat} (hS : zx_So zM_sd) (hi : zx_I zM_sd ad) {p1 p2 p3 : Int32} {s : zx_S} {s1 : zx_S} (h : zM_ValueBenchModel_through p1 p2 p3 s = some s1) : zx_MV zM_sd l D cz ad yX11_through cX11_through 6 1 22 [.ref (ad 0), .int p1, .int p2, .int p3] s s1 := zx_metV hS hi (by decide +kernel) rfl (Nat.le_of_ble_eq_true rfl) (fun Z e1 e2 e3 e4 C hr => by subst e1 e2 e3 e4; exact zM_ValueBenchModel_through_w C p1 p2 p3 s hr h)
set_option maxRecDepth 100000 in
set_option maxHeartbeats 4000000 in
theorem zM_ValueBenchModel_names_L2_w {Z : zx_Z} (C : zx_ok zM_sd Z cX11_names 6 RX11 2 47) {r : zx_S} {k36 : zx_S → Option zx_S} (hr : zx_rV zM_sd Z cX11_names 6 r) (h36 : ∀ (s1 : zx_S), k36 s1 = some r → zW zM_sd Z 6 36 [(0, .ref (zz_d Z 0))] [] s1) : ∀ (n : Nat) (v1 : Int32) (s : zx_S), zM_ValueBenchModel_names_L2 k36 n v1 s = some r → zW zM_sd Z 6 2 [(0, .ref (zz_d Z 0)), (1, .int v1)] [] s := by
  intro n
  induction n with
  | zero => intro v1 s h; unfold zM_ValueBenchModel_names_L2 at h; cases h
  | succ n ih =>
    intro v1 s h
    unfold zM_ValueBenchModel_names_L2 at h
    refine zr_iload_n C dX11_names_2 (q := 3) rfl 1 rfl rfl ?_
    refine zr_aload_n C dX11_names_3 (q := 4) rfl 0 rfl rfl ?_
    refine zr_get C dX11_names_4 (q := 7) zM_gX11_120_0 rfl ?_
    refine zr_icmp_ge (tgt := 36) (q := 10) C dX11_names_7 h (by decide) rfl (fun h => ?_) (fun h => ?_)
    · skip
      exact zr_sub [0] rfl (h36 s h)
    · skip
      refine zr_aload_n C dX11_names_10 (q := 11) rfl 0 rfl rfl ?_
      refine zr_get C dX11_names_11 (q := 14) zM_gX11_41_0 rfl ?_
      refine zr_iload_n C dX11_names_14 (q := 15) rfl 1 rfl rfl ?_
      refine zr_aload_n C dX11_names_15 (q := 16) rfl 0 rfl rfl ?_
      refine zr_get C dX11_names_16 (q := 19) zM_gX11_37_0 rfl ?_
      refine zr_iload_n C dX11_names_19 (q := 20) rfl 1 rfl rfl ?_
      obtain ⟨hin_20, h⟩ := zx_ck_so h
      refine zr_zald C dX11_names_20 (q := 21) zM_a10 hin_20 rfl ?_
      refine zr_if_ne (tgt := 28) (q := 24) C dX11_names_21 h (by decide) rfl (fun h => ?_) (fun h => ?_)
      · skip
        refine zr_iconst C dX11_names_28 (q := 29) (v := (0 : Int32)) (by decide) rfl ?_
        obtain ⟨hin_29, h⟩ := zx_ck_so h
        refine zr_zast C dX11_names_29 (q := 30) zM_a11 hin_29 rfl ?_
        refine zr_ls h (fun s3 h => ?_)
        refine zr_iinc C dX11_names_30 (q := 33) h (by decide) 1 rfl (by decide) (lw := fun v1_4 => [(1, .int v1_4), (0, .ref (zz_d Z 0))]) (fun _ => rfl) rfl (fun v1_4 h => ?_)
        refine zr_goto (q := 2) C dX11_names_33 (by decide) ?_
        exact zr_sub [1, 0] rfl (ih v1_4 s3 h)
      · skip
        refine zr_iconst C dX11_names_24 (q := 25) (v := (1 : Int32)) (by decide) rfl ?_
        refine zr_goto (q := 29) C dX11_names_25 (by decide) ?_
        obtain ⟨hin_29, h⟩ := zx_ck_so h
        refine zr_zast C dX11_names_29 (q := 30) zM_a11 hin_29 rfl ?_
        refine zr_ls h (fun s1 h => ?_)
        refine zr_iinc C dX11_names_30 (q := 33) h (by decide) 1 rfl (by decide) (lw := fun v1_2 => [(1, .int v1_2), (0, .ref (zz_d Z 0))]) (fun _ => rfl) rfl (fun v1_2 h => ?_)
        refine zr_goto (q := 2) C dX11_names_33 (by decide) ?_
        exact zr_sub [1, 0] rfl (ih v1_2 s1 h)
set_option maxRecDepth 100000 in
set_option maxHeartbeats 4000000 in
theorem zM_ValueBenchModel_names_J158_w {Z : zx_Z} (C : zx_ok zM_sd Z cX11_names 6 RX11 2 47) {r : zx_S} (v1 v2 v3 t1 t2 : Int32) (s : zx_S) {k95 : Int32 → zx_S → Option zx_S} (hr : zx_rV zM_sd Z cX11_names 6 r) (h95 : ∀ (a0 : Int32) (s1 : zx_S), k95 a0 s1 = some r → zW zM_sd Z 6 95 [(0, .ref (zz_d Z 0)), (1, .int v1), (2, .int v2), (3, .int a0)] [] s1) (h : zM_ValueBenchModel_names_J158 k95 v1 v2 v3 t1 t2 s = some r) : zW zM_sd Z 6 158 [(0, .ref (zz_d Z 0)), (1, .int v1), (2, .int v2), (3, .int v3)] [.int t2, .int t1, .ref (zz_d Z 27)] s := by
  unfold zM_ValueBenchModel_names_J158 at h
  obtain ⟨hin_158, h⟩ := zx_ck_so h
  refine zr_iast C dX11_names_158 (q := 159) zM_a27 hin_158 rfl ?_
  refine zr_ls h (fun s8 h => ?_)
  refine zr_aload_n C dX11_names_159 (q := 160) rfl 0 rfl rfl ?_
  refine zr_get C dX11_names_160 (q := 163) zM_gX11_83_0 rfl ?_
  refine zr_bipush C dX11_names_163 (q := 165) (v := (10 : Int32)) (by decide) rfl ?_
  refine zr_iload_n C dX11_names_165 (q := 166) rfl 2 rfl rfl ?_
  refine zr_imul C dX11_names_166 (q := 167) rfl ?_
  refine zr_iload_n C dX11_names_167 (q := 168) rfl 3 rfl rfl ?_
  refine zr_iadd C dX11_names_168 (q := 169) rfl ?_
  refine zr_aload_n C dX11_names_169 (q := 170) rfl 0 rfl rfl ?_
  refine zr_get C dX11_names_170 (q := 173) zM_gX11_89_0 rfl ?_
  refine zr_iload_n C dX11_names_173 (q := 174) rfl 3 rfl rfl ?_
  obtain ⟨hin_174, h⟩ := zx_ck_so h
  refine zr_iald C dX11_names_174 (q := 175) zM_a27 hin_174 rfl ?_
  refine zr_top h (fun x9 h => ?_)
  obtain ⟨hin_175, h⟩ := zx_ck_so h
  refine zr_iast C dX11_names_175 (q := 176) zM_a25 hin_175 rfl ?_
  refine zr_ls h (fun s10 h => ?_)
  refine zr_iinc C dX11_names_176 (q := 179) h (by decide) 3 rfl (by decide) (lw := fun v3_11 => [(3, .int v3_11), (0, .ref (zz_d Z 0)), (1, .int v1), (2, .int v2)]) (fun _ => rfl) rfl (fun v3_11 h => ?_)
  refine zr_goto (q := 95) C dX11_names_179 (by decide) ?_
  exact zr_sub [1, 2, 3, 0] rfl (h95 v3_11 s10 h)
set_option maxRecDepth 100000 in
set_option maxHeartbeats 4000000 in
theorem zM_ValueBenchModel_names_L95_w {Z : zx_Z} (C : zx_ok zM_sd Z cX11_names 6 RX11 2 47) {r : zx_S} (v1 v2 : Int32) {k182 : zx_S → Option zx_S} (hr : zx_rV zM_sd Z cX11_names 6 r) (h182 : ∀ (s1 : zx_S), k182 s1 = some r → zW zM_sd Z 6 182 [(0, .ref (zz_d Z 0)), (1, .int v1), (2, .int v2)] [] s1) : ∀ (n : Nat) (v3 : Int32) (s : zx_S), zM_ValueBenchModel_names_L95 v1 v2 k182 n v3 s = some r → zW zM_sd Z 6 95 [(0, .ref (zz_d Z 0)), (1, .int v1), (2, .int v2), (3, .int v3)] [] s := by
  intro n
  induction n with
  | zero => intro v3 s h; unfold zM_ValueBenchModel_names_L95 at h; cases h
  | succ n ih =>
    intro v3 s h
    unfold zM_ValueBenchModel_names_L95 at h
    refine zr_iload_n C dX11_names_95 (q := 96) rfl 3 rfl rfl ?_
    refine zr_bipush C dX11_names_96 (q := 98) (v := (10 : Int32)) (by decide) rfl ?_
    refine zr_icmp_ge (tgt := 182) (q := 101) C dX11_names_98 h (by decide) rfl (fun h => ?_) (fun h => ?_)
    · skip
      exact zr_sub [0, 1, 2] rfl (h182 s h)
    · skip
      refine zr_aload_n C dX11_names_101 (q := 102) rfl 0 rfl rfl ?_
      refine zr_get C dX11_names_102 (q := 105) zM_gX11_89_0 rfl ?_
      refine zr_iload_n C dX11_names_105 (q := 106) rfl 3 rfl rfl ?_
      refine zr_aload_n C dX11_names_106 (q := 107) rfl 0 rfl rfl ?_
      refine zr_get C dX11_names_107 (q := 110) zM_gX11_53_0 rfl ?_
      refine zr_bipush C dX11_names_110 (q := 112) (v := (10 : Int32)) (by decide) rfl ?_
      refine zr_iload_n C dX11_names_112 (q := 113) rfl 2 rfl rfl ?_
      refine zr_imul C dX11_names_113 (q := 114) rfl ?_
      refine zr_iload_n C dX11_names_114 (q := 115) rfl 3 rfl rfl ?_
      refine zr_iadd C dX11_names_115 (q := 116) rfl ?_
      obtain ⟨hin_116, h⟩ := zx_ck_so h
      refine zr_zald C dX11_names_116 (q := 117) zM_a15 hin_116 rfl ?_
      refine zr_if_eq (tgt := 134) (q := 120) C dX11_names_117 h (by decide) rfl (fun h => ?_) (fun h => ?_)
      · skip
        refine zr_iload_n C dX11_names_134 (q := 135) rfl 2 rfl rfl ?_
        refine zr_if_ne (tgt := 142) (q := 138) C dX11_names_135 h (by decide) rfl (fun h => ?_) (fun h => ?_)
        · skip
          refine zr_aload_n C dX11_names_142 (q := 143) rfl 0 rfl rfl ?_
          refine zr_get C dX11_names_143 (q := 146) zM_gX11_86_0 rfl ?_
          refine zr_bipush C dX11_names_146 (q := 148) (v := (10 : Int32)) (by decide) rfl ?_
          refine zr_aload_n C dX11_names_148 (q := 149) rfl 0 rfl rfl ?_
          refine zr_get C dX11_names_149 (q := 152) zM_gX11_47_0 rfl ?_
          refine zr_iload_n C dX11_names_152 (q := 153) rfl 2 rfl rfl ?_
          obtain ⟨hin_153, h⟩ := zx_ck_so h
          refine zr_iald C dX11_names_153 (q := 154) zM_a13 hin_153 rfl ?_
          refine zr_imul C dX11_names_154 (q := 155) rfl ?_
          refine zr_iload_n C dX11_names_155 (q := 156) rfl 3 rfl rfl ?_
          refine zr_iadd C dX11_names_156 (q := 157) rfl ?_
          obtain ⟨hin_157, h⟩ := zx_ck_so h
          refine zr_iald C dX11_names_157 (q := 158) zM_a26 hin_157 rfl ?_
          exact zr_sub [0, 1, 2, 3] rfl (zM_ValueBenchModel_names_J158_w C v1 v2 v3 v3 (s 26 ((((10 : Int32) * (s 13 (v2).toNatClampNeg)) + v3)).toNatClampNeg) s hr (ih) h)
        · skip
          refine zr_iconst C dX11_names_138 (q := 139) (v := (0 : Int32)) (by decide) rfl ?_
          refine zr_goto (q := 158) C dX11_names_139 (by decide) ?_
          exact zr_sub [0, 1, 2, 3] rfl (zM_ValueBenchModel_names_J158_w C v1 v2 v3 v3 (0 : Int32) s hr (ih) h)
      · skip
        refine zr_aload_n C dX11_names_120 (q := 121) rfl 0 rfl rfl ?_
        refine zr_get C dX11_names_121 (q := 124) zM_gX11_77_0 rfl ?_
        refine zr_bipush C dX11_names_124 (q := 126) (v := (10 : Int32)) (by decide) rfl ?_
        refine zr_iload_n C dX11_names_126 (q := 127) rfl 2 rfl rfl ?_
        refine zr_imul C dX11_names_127 (q := 128) rfl ?_
        refine zr_iload_n C dX11_names_128 (q := 129) rfl 3 rfl rfl ?_
        refine zr_iadd C dX11_names_129 (q := 130) rfl ?_
        obtain ⟨hin_130, h⟩ := zx_ck_so h
        refine zr_iald C dX11_names_130 (q := 131) zM_a23 hin_130 rfl ?_
        refine zr_goto (q := 158) C dX11_names_131 (by decide) ?_
        exact zr_sub [0, 1, 2, 3] rfl (zM_ValueBenchModel_names_J158_w C v1 v2 v3 v3 (s 23 ((((10 : Int32) * v2) + v3)).toNatClampNeg) s hr (ih) h)
set_option maxRecDepth 100000 in
set_option maxHeartbeats 4000000 in
theorem zM_ValueBenchModel_names_L196_w {Z : zx_Z} (C : zx_ok zM_sd Z cX11_names 6 RX11 2 47) {r : zx_S} (v1 v2 : Int32) {k225 : zx_S → Option zx_S} (hr : zx_rV zM_sd Z cX11_names 6 r) (h225 : ∀ (s1 : zx_S), k225 s1 = some r → zW zM_sd Z 6 225 [(0, .ref (zz_d Z 0)), (1, .int v1), (2, .int v2)] [] s1) : ∀ (n : Nat) (v3 : Int32) (s : zx_S), zM_ValueBenchModel_names_L196 v1 v2 k225 n v3 s = some r → zW zM_sd Z 6 196 [(0, .ref (zz_d Z 0)), (1, .int v1), (2, .int v2), (3, .int v3)] [] s := by
  intro n
  induction n with
  | zero => intro v3 s h; unfold zM_ValueBenchModel_names_L196 at h; cases h
  | succ n ih =>
    intro v3 s h
    unfold zM_ValueBenchModel_names_L196 at h
    refine zr_iload_n C dX11_names_196 (q := 197) rfl 3 rfl rfl ?_
    refine zr_bipush C dX11_names_197 (q := 199) (v := (10 : Int32)) (by decide) rfl ?_
    refine zr_icmp_ge (tgt := 225) (q := 202) C dX11_names_199 h (by decide) rfl (fun h => ?_) (fun h => ?_)
    · skip
      exact zr_sub [0, 1, 2] rfl (h225 s h)
    · skip
      refine zr_aload_n C dX11_names_202 (q := 203) rfl 0 rfl rfl ?_
      refine zr_get C dX11_names_203 (q := 206) zM_gX11_86_0 rfl ?_
      refine zr_bipush C dX11_names_206 (q := 208) (v := (10 : Int32)) (by decide) rfl ?_
      refine zr_iload_n C dX11_names_208 (q := 209) rfl 2 rfl rfl ?_
      refine zr_imul C dX11_names_209 (q := 210) rfl ?_
      refine zr_iload_n C dX11_names_210 (q := 211) rfl 3 rfl rfl ?_
      refine zr_iadd C dX11_names_211 (q := 212) rfl ?_
      refine zr_aload_n C dX11_names_212 (q := 213) rfl 0 rfl rfl ?_
      refine zr_get C dX11_names_213 (q := 216) zM_gX11_89_0 rfl ?_
      refine zr_iload_n C dX11_names_216 (q := 217) rfl 3 rfl rfl ?_
      obtain ⟨hin_217, h⟩ := zx_ck_so h
      refine zr_iald C dX11_names_217 (q := 218) zM_a27 hin_217 rfl ?_
      refine zr_top h (fun x14 h => ?_)
      obtain ⟨hin_218, h⟩ := zx_ck_so h
      refine zr_iast C dX11_names_218 (q := 219) zM_a26 hin_218 rfl ?_
      refine zr_ls h (fun s15 h => ?_)
      refine zr_iinc C dX11_names_219 (q := 222) h (by decide) 3 rfl (by decide) (lw := fun v3_16 => [(3, .int v3_16), (0, .ref (zz_d Z 0)), (1, .int v1), (2, .int v2)]) (fun _ => rfl) rfl (fun v3_16 h => ?_)
      refine zr_goto (q := 196) C dX11_names_222 (by decide) ?_
      exact zr_sub [1, 2, 3, 0] rfl (ih v3_16 s15 h)
set_option maxRecDepth 100000 in
set_option maxHeartbeats 4000000 in
theorem zM_ValueBenchModel_names_J158b_w {Z : zx_Z} (C : zx_ok zM_sd Z cX11_names 6 RX11 2 47) {r : zx_S} (v1 v2 v3 t1 t2 : Int32) (s : zx_S) {k95 : Int32 → zx_S → Option zx_S} (hr : zx_rV zM_sd Z cX11_names 6 r) (h95 : ∀ (a0 : Int32) (s1 : zx_S), k95 a0 s1 = some r → zW zM_sd Z 6 95 [(0, .ref (zz_d Z 0)), (1, .int v1), (2, .int v2), (3, .int a0)] [] s1) (h : zM_ValueBenchModel_names_J158b k95 v1 v2 v3 t1 t2 s = some r) : zW zM_sd Z 6 158 [(0, .ref (zz_d Z 0)), (1, .int v1), (2, .int v2), (3, .int v3)] [.int t2, .int t1, .ref (zz_d Z 27)] s := by
  unfold zM_ValueBenchModel_names_J158b at h
  obtain ⟨hin_158, h⟩ := zx_ck_so h
  refine zr_iast C dX11_names_158 (q := 159) zM_a27 hin_158 rfl ?_
  refine zr_ls h (fun s20 h => ?_)
  refine zr_aload_n C dX11_names_159 (q := 160) rfl 0 rfl rfl ?_
  refine zr_get C dX11_names_160 (q := 163) zM_gX11_83_0 rfl ?_
  refine zr_bipush C dX11_names_163 (q := 165) (v := (10 : Int32)) (by decide) rfl ?_
  refine zr_iload_n C dX11_names_165 (q := 166) rfl 2 rfl rfl ?_
  refine zr_imul C dX11_names_166 (q := 167) rfl ?_
  refine zr_iload_n C dX11_names_167 (q := 168) rfl 3 rfl rfl ?_
  refine zr_iadd C dX11_names_168 (q := 169) rfl ?_
  refine zr_aload_n C dX11_names_169 (q := 170) rfl 0 rfl rfl ?_
  refine zr_get C dX11_names_170 (q := 173) zM_gX11_89_0 rfl ?_
  refine zr_iload_n C dX11_names_173 (q := 174) rfl 3 rfl rfl ?_
  obtain ⟨hin_174, h⟩ := zx_ck_so h
  refine zr_iald C dX11_names_174 (q := 175) zM_a27 hin_174 rfl ?_
  refine zr_top h (fun x21 h => ?_)
  obtain ⟨hin_175, h⟩ := zx_ck_so h
  refine zr_iast C dX11_names_175 (q := 176) zM_a25 hin_175 rfl ?_
  refine zr_ls h (fun s22 h => ?_)
  refine zr_iinc C dX11_names_176 (q := 179) h (by decide) 3 rfl (by decide) (lw := fun v3_23 => [(3, .int v3_23), (0, .ref (zz_d Z 0)), (1, .int v1), (2, .int v2)]) (fun _ => rfl) rfl (fun v3_23 h => ?_)
  refine zr_goto (q := 95) C dX11_names_179 (by decide) ?_
  exact zr_sub [1, 2, 3, 0] rfl (h95 v3_23 s22 h)
set_option maxRecDepth 100000 in
set_option maxHeartbeats 4000000 in
theorem zM_ValueBenchModel_names_L95b_w {Z : zx_Z} (C : zx_ok zM_sd Z cX11_names 6 RX11 2 47) {r : zx_S} (v1 v2 : Int32) {k182 : zx_S → Option zx_S} (hr : zx_rV zM_sd Z cX11_names 6 r) (h182 : ∀ (s1 : zx_S), k182 s1 = some r → zW zM_sd Z 6 182 [(0, .ref (zz_d Z 0)), (1, .int v1), (2, .int v2)] [] s1) : ∀ (n : Nat) (v3 : Int32) (s : zx_S), zM_ValueBenchModel_names_L95b v1 v2 k182 n v3 s = some r → zW zM_sd Z 6 95 [(0, .ref (zz_d Z 0)), (1, .int v1), (2, .int v2), (3, .int v3)] [] s := by
  intro n
  induction n with
  | zero => intro v3 s h; unfold zM_ValueBenchModel_names_L95b at h; cases h
  | succ n ih =>
    intro v3 s h
    unfold zM_ValueBenchModel_names_L95b at h
    refine zr_iload_n C dX11_names_95 (q := 96) rfl 3 rfl rfl ?_
    refine zr_bipush C dX11_names_96 (q := 98) (v := (10 : Int32)) (by decide) rfl ?_
    refine zr_icmp_ge (tgt := 182) (q := 101) C dX11_names_98 h (by decide) rfl (fun h => ?_) (fun h => ?_)
    · skip
      exact zr_sub [0, 1, 2] rfl (h182 s h)
    · skip
      refine zr_aload_n C dX11_names_101 (q := 102) rfl 0 rfl rfl ?_
      refine zr_get C dX11_names_102 (q := 105) zM_gX11_89_0 rfl ?_
      refine zr_iload_n C dX11_names_105 (q := 106) rfl 3 rfl rfl ?_
      refine zr_aload_n C dX11_names_106 (q := 107) rfl 0 rfl rfl ?_
      refine zr_get C dX11_names_107 (q := 110) zM_gX11_53_0 rfl ?_
      refine zr_bipush C dX11_names_110 (q := 112) (v := (10 : Int32)) (by decide) rfl ?_
      refine zr_iload_n C dX11_names_112 (q := 113) rfl 2 rfl rfl ?_
      refine zr_imul C dX11_names_113 (q := 114) rfl ?_
      refine zr_iload_n C dX11_names_114 (q := 115) rfl 3 rfl rfl ?_
      refine zr_iadd C dX11_names_115 (q := 116) rfl ?_
      obtain ⟨hin_116, h⟩ := zx_ck_so h
      refine zr_zald C dX11_names_116 (q := 117) zM_a15 hin_116 rfl ?_
      refine zr_if_eq (tgt := 134) (q := 120) C dX11_names_117 h (by decide) rfl (fun h => ?_) (fun h => ?_)
      · skip
        refine zr_iload_n C dX11_names_134 (q := 135) rfl 2 rfl rfl ?_
        refine zr_if_ne (tgt := 142) (q := 138) C dX11_names_135 h (by decide) rfl (fun h => ?_) (fun h => ?_)
        · skip
          refine zr_aload_n C dX11_names_142 (q := 143) rfl 0 rfl rfl ?_
          refine zr_get C dX11_names_143 (q := 146) zM_gX11_86_0 rfl ?_
          refine zr_bipush C dX11_names_146 (q := 148) (v := (10 : Int32)) (by decide) rfl ?_
          refine zr_aload_n C dX11_names_148 (q := 149) rfl 0 rfl rfl ?_
          refine zr_get C dX11_names_149 (q := 152) zM_gX11_47_0 rfl ?_
          refine zr_iload_n C dX11_names_152 (q := 153) rfl 2 rfl rfl ?_
          obtain ⟨hin_153, h⟩ := zx_ck_so h
          refine zr_iald C dX11_names_153 (q := 154) zM_a13 hin_153 rfl ?_
          refine zr_imul C dX11_names_154 (q := 155) rfl ?_
          refine zr_iload_n C dX11_names_155 (q := 156) rfl 3 rfl rfl ?_
          refine zr_iadd C dX11_names_156 (q := 157) rfl ?_
          obtain ⟨hin_157, h⟩ := zx_ck_so h
          refine zr_iald C dX11_names_157 (q := 158) zM_a26 hin_157 rfl ?_
          exact zr_sub [0, 1, 2, 3] rfl (zM_ValueBenchModel_names_J158b_w C v1 v2 v3 v3 (s 26 ((((10 : Int32) * (s 13 (v2).toNatClampNeg)) + v3)).toNatClampNeg) s hr (ih) h)
        · skip
          refine zr_iconst C dX11_names_138 (q := 139) (v := (0 : Int32)) (by decide) rfl ?_
          refine zr_goto (q := 158) C dX11_names_139 (by decide) ?_
          exact zr_sub [0, 1, 2, 3] rfl (zM_ValueBenchModel_names_J158b_w C v1 v2 v3 v3 (0 : Int32) s hr (ih) h)
      · skip
        refine zr_aload_n C dX11_names_120 (q := 121) rfl 0 rfl rfl ?_
        refine zr_get C dX11_names_121 (q := 124) zM_gX11_77_0 rfl ?_
        refine zr_bipush C dX11_names_124 (q := 126) (v := (10 : Int32)) (by decide) rfl ?_
        refine zr_iload_n C dX11_names_126 (q := 127) rfl 2 rfl rfl ?_
        refine zr_imul C dX11_names_127 (q := 128) rfl ?_
        refine zr_iload_n C dX11_names_128 (q := 129) rfl 3 rfl rfl ?_
        refine zr_iadd C dX11_names_129 (q := 130) rfl ?_
        obtain ⟨hin_130, h⟩ := zx_ck_so h
        refine zr_iald C dX11_names_130 (q := 131) zM_a23 hin_130 rfl ?_
        refine zr_goto (q := 158) C dX11_names_131 (by decide) ?_
        exact zr_sub [0, 1, 2, 3] rfl (zM_ValueBenchModel_names_J158b_w C v1 v2 v3 v3 (s 23 ((((10 : Int32) * v2) + v3)).toNatClampNeg) s hr (ih) h)
set_option maxRecDepth 100000 in
set_option maxHeartbeats 4000000 in
theorem zM_ValueBenchModel_names_L196b_w {Z : zx_Z} (C : zx_ok zM_sd Z cX11_names 6 RX11 2 47) {r : zx_S} (v1 v2 : Int32) {k225 : zx_S → Option zx_S} (hr : zx_rV zM_sd Z cX11_names 6 r) (h225 : ∀ (s1 : zx_S), k225 s1 = some r → zW zM_sd Z 6 225 [(0, .ref (zz_d Z 0)), (1, .int v1), (2, .int v2)] [] s1) : ∀ (n : Nat) (v3 : Int32) (s : zx_S), zM_ValueBenchModel_names_L196b v1 v2 k225 n v3 s = some r → zW zM_sd Z 6 196 [(0, .ref (zz_d Z 0)), (1, .int v1), (2, .int v2), (3, .int v3)] [] s := by
  intro n
  induction n with
  | zero => intro v3 s h; unfold zM_ValueBenchModel_names_L196b at h; cases h
  | succ n ih =>
    intro v3 s h
    unfold zM_ValueBenchModel_names_L196b at h
    refine zr_iload_n C dX11_names_196 (q := 197) rfl 3 rfl rfl ?_
    refine zr_bipush C dX11_names_197 (q := 199) (v := (10 : Int32)) (by decide) rfl ?_
    refine zr_icmp_ge (tgt := 225) (q := 202) C dX11_names_199 h (by decide) rfl (fun h => ?_) (fun h => ?_)
    · skip
      exact zr_sub [0, 1, 2] rfl (h225 s h)
    · skip
      refine zr_aload_n C dX11_names_202 (q := 203) rfl 0 rfl rfl ?_
      refine zr_get C dX11_names_203 (q := 206) zM_gX11_86_0 rfl ?_
      refine zr_bipush C dX11_names_206 (q := 208) (v := (10 : Int32)) (by decide) rfl ?_
      refine zr_iload_n C dX11_names_208 (q := 209) rfl 2 rfl rfl ?_
      refine zr_imul C dX11_names_209 (q := 210) rfl ?_
      refine zr_iload_n C dX11_names_210 (q := 211) rfl 3 rfl rfl ?_
      refine zr_iadd C dX11_names_211 (q := 212) rfl ?_
      refine zr_aload_n C dX11_names_212 (q := 213) rfl 0 rfl rfl ?_
      refine zr_get C dX11_names_213 (q := 216) zM_gX11_89_0 rfl ?_
      refine zr_iload_n C dX11_names_216 (q := 217) rfl 3 rfl rfl ?_
      obtain ⟨hin_217, h⟩ := zx_ck_so h
      refine zr_iald C dX11_names_217 (q := 218) zM_a27 hin_217 rfl ?_
      refine zr_top h (fun x26 h => ?_)
      obtain ⟨hin_218, h⟩ := zx_ck_so h
      refine zr_iast C dX11_names_218 (q := 219) zM_a26 hin_218 rfl ?_
      refine zr_ls h (fun s27 h => ?_)
      refine zr_iinc C dX11_names_219 (q := 222) h (by decide) 3 rfl (by decide) (lw := fun v3_28 => [(3, .int v3_28), (0, .ref (zz_d Z 0)), (1, .int v1), (2, .int v2)]) (fun _ => rfl) rfl (fun v3_28 h => ?_)
      refine zr_goto (q := 196) C dX11_names_222 (by decide) ?_
      exact zr_sub [1, 2, 3, 0] rfl (ih v3_28 s27 h)
set_option maxRecDepth 100000 in
set_option maxHeartbeats 4000000 in
theorem zM_ValueBenchModel_names_L46_w {Z : zx_Z} (C : zx_ok zM_sd Z cX11_names 6 RX11 2 47) {r : zx_S} {k231 : Int32 → zx_S → Option zx_S} (hr : zx_rV zM_sd Z cX11_names 6 r) (h231 : ∀ (a0 : Int32) (s1 : zx_S), k231 a0 s1 = some r → zW zM_sd Z 6 231 [(0, .ref (zz_d Z 0)), (1, .int a0)] [] s1) : ∀ (n : Nat) (v1 : Int32) (v2 : Int32) (s : zx_S), zM_ValueBenchModel_names_L46 k231 n v1 v2 s = some r → zW zM_sd Z 6 46 [(0, .ref (zz_d Z 0)), (1, .int v1), (2, .int v2)] [] s := by
  intro n
  induction n with
  | zero => intro v1 v2 s h; unfold zM_ValueBenchModel_names_L46 at h; cases h
  | succ n ih =>
    intro v1 v2 s h
    unfold zM_ValueBenchModel_names_L46 at h
    refine zr_iload_n C dX11_names_46 (q := 47) rfl 2 rfl rfl ?_
    refine zr_aload_n C dX11_names_47 (q := 48) rfl 0 rfl rfl ?_
    refine zr_get C dX11_names_48 (q := 51) zM_gX11_120_0 rfl ?_
    refine zr_icmp_ge (tgt := 231) (q := 54) C dX11_names_51 h (by decide) rfl (fun h => ?_) (fun h => ?_)
    · skip
      exact zr_sub [0, 1] rfl (h231 v1 s h)
    · skip
      refine zr_aload_n C dX11_names_54 (q := 55) rfl 0 rfl rfl ?_
      refine zr_get C dX11_names_55 (q := 58) zM_gX11_41_0 rfl ?_
      refine zr_iload_n C dX11_names_58 (q := 59) rfl 2 rfl rfl ?_
      obtain ⟨hin_59, h⟩ := zx_ck_so h
      refine zr_zald C dX11_names_59 (q := 60) zM_a11 hin_59 rfl ?_
      refine zr_if_ne (tgt := 225) (q := 63) C dX11_names_60 h (by decide) rfl (fun h => ?_) (fun h => ?_)
      · skip
        refine zr_iinc C dX11_names_225 (q := 228) h (by decide) 2 rfl (by decide) (lw := fun v2_31 => [(2, .int v2_31), (0, .ref (zz_d Z 0)), (1, .int v1)]) (fun _ => rfl) rfl (fun v2_31 h => ?_)
        refine zr_goto (q := 46) C dX11_names_228 (by decide) ?_
        exact zr_sub [1, 2, 0] rfl (ih v1 v2_31 s h)
      · skip
        refine zr_iload_n C dX11_names_63 (q := 64) rfl 2 rfl rfl ?_
        refine zr_if_le (tgt := 84) (q := 67) C dX11_names_64 h (by decide) rfl (fun h => ?_) (fun h => ?_)
        · skip
          refine zr_aload_n C dX11_names_84 (q := 85) rfl 0 rfl rfl ?_
          refine zr_get C dX11_names_85 (q := 88) zM_gX11_41_0 rfl ?_
          refine zr_iload_n C dX11_names_88 (q := 89) rfl 2 rfl rfl ?_
          refine zr_iconst C dX11_names_89 (q := 90) (v := (1 : Int32)) (by decide) rfl ?_
          obtain ⟨hin_90, h⟩ := zx_ck_so h
          refine zr_zast C dX11_names_90 (q := 91) zM_a11 hin_90 rfl ?_
          refine zr_ls h (fun s19 h => ?_)
          refine zr_iconst C dX11_names_91 (q := 92) (v := (1 : Int32)) (by decide) rfl ?_
          refine zr_istore_n C dX11_names_92 (q := 93) rfl (by decide) (lv' := [(1, .int (1 : Int32)), (0, .ref (zz_d Z 0)), (2, .int v2)]) rfl rfl ?_
          refine zr_iconst C dX11_names_93 (q := 94) (v := (0 : Int32)) (by decide) rfl ?_
          refine zr_istore_n C dX11_names_94 (q := 95) rfl (by decide) (lv' := [(3, .int (0 : Int32)), (1, .int (1 : Int32)), (0, .ref (zz_d Z 0)), (2, .int v2)]) rfl rfl ?_
          refine zr_sub [2, 1, 3, 0] rfl (zM_ValueBenchModel_names_L95b_w C (1 : Int32) v2 hr (fun s24 h => ?_) 10000 (0 : Int32) s19 h)
          · skip
            refine zr_aload_n C dX11_names_182 (q := 183) rfl 0 rfl rfl ?_
            refine zr_iload_n C dX11_names_183 (q := 184) rfl 2 rfl rfl ?_
            refine zr_aload_n C dX11_names_184 (q := 185) rfl 0 rfl rfl ?_
            refine zr_get C dX11_names_185 (q := 188) zM_gX11_22_0 rfl ?_
            refine zr_iload_n C dX11_names_188 (q := 189) rfl 2 rfl rfl ?_
            obtain ⟨hin_189, h⟩ := zx_ck_so h
            refine zr_iald C dX11_names_189 (q := 190) zM_a5 hin_189 rfl ?_
            refine zr_iconst C dX11_names_190 (q := 191) (v := (1 : Int32)) (by decide) rfl ?_
            obtain ⟨s25, hc_191, h⟩ := zx_b1_so h
            refine zr_cvV (q := 194) C (As := [.int v2, .int (s24 5 (v2).toNatClampNeg), .int (1 : Int32)]) (k := 0) (rest := []) dX11_names_191 (zM_ValueBenchModel_through_met C.2.2.2.2.1 C.2.2.2.1 hc_191) zM_vX11_162 zM_o0 ⟨by decide, by decide⟩ rfl (Nat.le_of_ble_eq_true rfl) rfl rfl ?_
            refine zr_iconst C dX11_names_194 (q := 195) (v := (0 : Int32)) (by decide) rfl ?_
            refine zr_istore_n C dX11_names_195 (q := 196) rfl (by decide) (lv' := [(3, .int (0 : Int32)), (0, .ref (zz_d Z 0)), (1, .int (1 : Int32)), (2, .int v2)]) rfl rfl ?_
            refine zr_sub [1, 2, 3, 0] rfl (zM_ValueBenchModel_names_L196b_w C (1 : Int32) v2 hr (fun s29 h => ?_) 10000 (0 : Int32) s25 h)
            · skip
              refine zr_iinc C dX11_names_225 (q := 228) h (by decide) 2 rfl (by decide) (lw := fun v2_30 => [(2, .int v2_30), (0, .ref (zz_d Z 0)), (1, .int (1 : Int32))]) (fun _ => rfl) rfl (fun v2_30 h => ?_)
              refine zr_goto (q := 46) C dX11_names_228 (by decide) ?_
              exact zr_sub [1, 2, 0] rfl (ih (1 : Int32) v2_30 s29 h)
        · skip
          refine zr_aload_n C dX11_names_67 (q := 68) rfl 0 rfl rfl ?_
          refine zr_get C dX11_names_68 (q := 71) zM_gX11_41_0 rfl ?_
          refine zr_aload_n C dX11_names_71 (q := 72) rfl 0 rfl rfl ?_
          refine zr_get C dX11_names_72 (q := 75) zM_gX11_47_0 rfl ?_
          refine zr_iload_n C dX11_names_75 (q := 76) rfl 2 rfl rfl ?_
          obtain ⟨hin_76, h⟩ := zx_ck_so h
          refine zr_iald C dX11_names_76 (q := 77) zM_a13 hin_76 rfl ?_
          obtain ⟨hin_77, h⟩ := zx_ck_so h
          refine zr_zald C dX11_names_77 (q := 78) zM_a11 hin_77 rfl ?_
          refine zr_if_ne (tgt := 84) (q := 81) C dX11_names_78 h (by decide) rfl (fun h => ?_) (fun h => ?_)
          · skip
            refine zr_aload_n C dX11_names_84 (q := 85) rfl 0 rfl rfl ?_
            refine zr_get C dX11_names_85 (q := 88) zM_gX11_41_0 rfl ?_
            refine zr_iload_n C dX11_names_88 (q := 89) rfl 2 rfl rfl ?_
            refine zr_iconst C dX11_names_89 (q := 90) (v := (1 : Int32)) (by decide) rfl ?_
            obtain ⟨hin_90, h⟩ := zx_ck_so h
            refine zr_zast C dX11_names_90 (q := 91) zM_a11 hin_90 rfl ?_
            refine zr_ls h (fun s7 h => ?_)
            refine zr_iconst C dX11_names_91 (q := 92) (v := (1 : Int32)) (by decide) rfl ?_
            refine zr_istore_n C dX11_names_92 (q := 93) rfl (by decide) (lv' := [(1, .int (1 : Int32)), (0, .ref (zz_d Z 0)), (2, .int v2)]) rfl rfl ?_
            refine zr_iconst C dX11_names_93 (q := 94) (v := (0 : Int32)) (by decide) rfl ?_
            refine zr_istore_n C dX11_names_94 (q := 95) rfl (by decide) (lv' := [(3, .int (0 : Int32)), (1, .int (1 : Int32)), (0, .ref (zz_d Z 0)), (2, .int v2)]) rfl rfl ?_
            refine zr_sub [2, 1, 3, 0] rfl (zM_ValueBenchModel_names_L95_w C (1 : Int32) v2 hr (fun s12 h => ?_) 10000 (0 : Int32) s7 h)
            · skip
              refine zr_aload_n C dX11_names_182 (q := 183) rfl 0 rfl rfl ?_
              refine zr_iload_n C dX11_names_183 (q := 184) rfl 2 rfl rfl ?_
              refine zr_aload_n C dX11_names_184 (q := 185) rfl 0 rfl rfl ?_
              refine zr_get C dX11_names_185 (q := 188) zM_gX11_22_0 rfl ?_
              refine zr_iload_n C dX11_names_188 (q := 189) rfl 2 rfl rfl ?_
              obtain ⟨hin_189, h⟩ := zx_ck_so h
              refine zr_iald C dX11_names_189 (q := 190) zM_a5 hin_189 rfl ?_
              refine zr_iconst C dX11_names_190 (q := 191) (v := (1 : Int32)) (by decide) rfl ?_
              obtain ⟨s13, hc_191, h⟩ := zx_b1_so h
              refine zr_cvV (q := 194) C (As := [.int v2, .int (s12 5 (v2).toNatClampNeg), .int (1 : Int32)]) (k := 0) (rest := []) dX11_names_191 (zM_ValueBenchModel_through_met C.2.2.2.2.1 C.2.2.2.1 hc_191) zM_vX11_162 zM_o0 ⟨by decide, by decide⟩ rfl (Nat.le_of_ble_eq_true rfl) rfl rfl ?_
              refine zr_iconst C dX11_names_194 (q := 195) (v := (0 : Int32)) (by decide) rfl ?_
              refine zr_istore_n C dX11_names_195 (q := 196) rfl (by decide) (lv' := [(3, .int (0 : Int32)), (0, .ref (zz_d Z 0)), (1, .int (1 : Int32)), (2, .int v2)]) rfl rfl ?_
              refine zr_sub [1, 2, 3, 0] rfl (zM_ValueBenchModel_names_L196_w C (1 : Int32) v2 hr (fun s17 h => ?_) 10000 (0 : Int32) s13 h)
              · skip
                refine zr_iinc C dX11_names_225 (q := 228) h (by decide) 2 rfl (by decide) (lw := fun v2_18 => [(2, .int v2_18), (0, .ref (zz_d Z 0)), (1, .int (1 : Int32))]) (fun _ => rfl) rfl (fun v2_18 h => ?_)
                refine zr_goto (q := 46) C dX11_names_228 (by decide) ?_
                exact zr_sub [1, 2, 0] rfl (ih (1 : Int32) v2_18 s17 h)
          · skip
            refine zr_goto (q := 225) C dX11_names_81 (by decide) ?_
            refine zr_iinc C dX11_names_225 (q := 228) h (by decide) 2 rfl (by decide) (lw := fun v2_6 => [(2, .int v2_6), (0, .ref (zz_d Z 0)), (1, .int v1)]) (fun _ => rfl) rfl (fun v2_6 h => ?_)
            refine zr_goto (q := 46) C dX11_names_228 (by decide) ?_
            exact zr_sub [1, 2, 0] rfl (ih v1 v2_6 s h)
set_option maxRecDepth 100000 in
set_option maxHeartbeats 4000000 in
theorem zM_ValueBenchModel_names_L38_w {Z : zx_Z} (C : zx_ok zM_sd Z cX11_names 6 RX11 2 47) {r : zx_S} {k234 : zx_S → Option zx_S} (hr : zx_rV zM_sd Z cX11_names 6 r) (h234 : ∀ (s1 : zx_S), k234 s1 = some r → zW zM_sd Z 6 234 [(0, .ref (zz_d Z 0))] [] s1) : ∀ (n : Nat) (v1 : Int32) (s : zx_S), zM_ValueBenchModel_names_L38 k234 n v1 s = some r → zW zM_sd Z 6 38 [(0, .ref (zz_d Z 0)), (1, .int v1)] [] s := by
  intro n
  induction n with
  | zero => intro v1 s h; unfold zM_ValueBenchModel_names_L38 at h; cases h
  | succ n ih =>
    intro v1 s h
    unfold zM_ValueBenchModel_names_L38 at h
    refine zr_iload_n C dX11_names_38 (q := 39) rfl 1 rfl rfl ?_
    refine zr_if_eq (tgt := 234) (q := 42) C dX11_names_39 h (by decide) rfl (fun h => ?_) (fun h => ?_)
    · skip
      exact zr_sub [0] rfl (h234 s h)
    · skip
      refine zr_iconst C dX11_names_42 (q := 43) (v := (0 : Int32)) (by decide) rfl ?_
      refine zr_istore_n C dX11_names_43 (q := 44) rfl (by decide) (lv' := [(1, .int (0 : Int32)), (0, .ref (zz_d Z 0))]) rfl rfl ?_
      refine zr_iconst C dX11_names_44 (q := 45) (v := (0 : Int32)) (by decide) rfl ?_
      refine zr_istore_n C dX11_names_45 (q := 46) rfl (by decide) (lv' := [(2, .int (0 : Int32)), (1, .int (0 : Int32)), (0, .ref (zz_d Z 0))]) rfl rfl ?_
      refine zr_sub [2, 1, 0] rfl (zM_ValueBenchModel_names_L46_w C hr (fun v1_32 s33 h => ?_) 10000 (0 : Int32) (0 : Int32) s h)
      · skip
        refine zr_goto (q := 38) C dX11_names_231 (by decide) ?_
        exact zr_sub [0, 1] rfl (ih v1_32 s33 h)
set_option maxRecDepth 100000 in
set_option maxHeartbeats 4000000 in
theorem zM_ValueBenchModel_names_L294_w {Z : zx_Z} (C : zx_ok zM_sd Z cX11_names 6 RX11 2 47) {r : zx_S} (v2 v3 v4 : Int32) {k347 : zx_S → Option zx_S} (hr : zx_rV zM_sd Z cX11_names 6 r) (h347 : ∀ (s1 : zx_S), k347 s1 = some r → zW zM_sd Z 6 347 [(0, .ref (zz_d Z 0)), (2, .int v2), (3, .int v3), (4, .int v4)] [] s1) : ∀ (n : Nat) (v5 : Int32) (s : zx_S), zM_ValueBenchModel_names_L294 v2 v3 v4 k347 n v5 s = some r → zW zM_sd Z 6 294 [(0, .ref (zz_d Z 0)), (2, .int v2), (3, .int v3), (4, .int v4), (5, .int v5)] [] s := by
  intro n
  induction n with
  | zero => intro v5 s h; unfold zM_ValueBenchModel_names_L294 at h; cases h
  | succ n ih =>
    intro v5 s h
    unfold zM_ValueBenchModel_names_L294 at h
    refine zr_iload C dX11_names_294 (q := 296) 4 rfl rfl ?_
    refine zr_aload_n C dX11_names_296 (q := 297) rfl 0 rfl rfl ?_
    refine zr_get C dX11_names_297 (q := 300) zM_gX11_120_0 rfl ?_
    refine zr_icmp_ge (tgt := 347) (q := 303) C dX11_names_300 h (by decide) rfl (fun h => ?_) (fun h => ?_)
    · skip
      exact zr_sub [0, 1, 2, 3] rfl (h347 s h)
    · skip
      refine zr_aload_n C dX11_names_303 (q := 304) rfl 0 rfl rfl ?_
      refine zr_get C dX11_names_304 (q := 307) zM_gX11_37_0 rfl ?_
      refine zr_iload C dX11_names_307 (q := 309) 4 rfl rfl ?_
      obtain ⟨hin_309, h⟩ := zx_ck_so h
      refine zr_zald C dX11_names_309 (q := 310) zM_a10 hin_309 rfl ?_
      refine zr_if_eq (tgt := 341) (q := 313) C dX11_names_310 h (by decide) rfl (fun h => ?_) (fun h => ?_)
      · skip
        refine zr_iinc C dX11_names_341 (q := 344) h (by decide) 4 rfl (by decide) (lw := fun v5_41 => [(5, .int v5_41), (0, .ref (zz_d Z 0)), (2, .int v2), (3, .int v3), (4, .int v4)]) (fun _ => rfl) rfl (fun v5_41 h => ?_)
        refine zr_goto (q := 294) C dX11_names_344 (by decide) ?_
        exact zr_sub [1, 2, 3, 4, 0] rfl (ih v5_41 s h)
      · skip
        refine zr_aload_n C dX11_names_313 (q := 314) rfl 0 rfl rfl ?_
        refine zr_iload C dX11_names_314 (q := 316) 4 rfl rfl ?_
        refine zr_iload_n C dX11_names_316 (q := 317) rfl 1 rfl rfl ?_
        obtain ⟨r37, hc_317, h⟩ := zx_b1_so h
        refine zr_cvI (q := 320) C (As := [.int v5, .int v2]) (k := 0) (rest := []) dX11_names_317 (zM_ValueBenchModel_leads_met C.2.2.2.2.1 C.2.2.2.1 hc_317) zM_vX11_141 zM_o0 ⟨by decide, by decide⟩ rfl (Nat.le_of_ble_eq_true rfl) rfl rfl ?_
        refine zr_if_eq (tgt := 341) (q := 323) C dX11_names_320 h (by decide) rfl (fun h => ?_) (fun h => ?_)
        · skip
          refine zr_iinc C dX11_names_341 (q := 344) h (by decide) 4 rfl (by decide) (lw := fun v5_40 => [(5, .int v5_40), (0, .ref (zz_d Z 0)), (2, .int v2), (3, .int v3), (4, .int v4)]) (fun _ => rfl) rfl (fun v5_40 h => ?_)
          refine zr_goto (q := 294) C dX11_names_344 (by decide) ?_
          exact zr_sub [1, 2, 3, 4, 0] rfl (ih v5_40 s h)
        · skip
          refine zr_aload_n C dX11_names_323 (q := 324) rfl 0 rfl rfl ?_
          refine zr_iload C dX11_names_324 (q := 326) 3 rfl rfl ?_
          refine zr_aload_n C dX11_names_326 (q := 327) rfl 0 rfl rfl ?_
          refine zr_get C dX11_names_327 (q := 330) zM_gX11_86_0 rfl ?_
          refine zr_bipush C dX11_names_330 (q := 332) (v := (10 : Int32)) (by decide) rfl ?_
          refine zr_iload C dX11_names_332 (q := 334) 4 rfl rfl ?_
          refine zr_imul C dX11_names_334 (q := 335) rfl ?_
          refine zr_iload_n C dX11_names_335 (q := 336) rfl 2 rfl rfl ?_
          refine zr_iadd C dX11_names_336 (q := 337) rfl ?_
          obtain ⟨hin_337, h⟩ := zx_ck_so h
          refine zr_iald C dX11_names_337 (q := 338) zM_a26 hin_337 rfl ?_
          obtain ⟨s38, hc_338, h⟩ := zx_b1_so h
          refine zr_cvV (q := 341) C (As := [.int v4, .int (s 26 ((((10 : Int32) * v5) + v3)).toNatClampNeg)]) (k := 0) (rest := []) dX11_names_338 (zM_ValueBenchModel_adds_met C.2.2.2.2.1 C.2.2.2.1 hc_338) zM_vX11_166 zM_o0 ⟨by decide, by decide⟩ rfl (Nat.le_of_ble_eq_true rfl) rfl rfl ?_
          refine zr_iinc C dX11_names_341 (q := 344) h (by decide) 4 rfl (by decide) (lw := fun v5_39 => [(5, .int v5_39), (0, .ref (zz_d Z 0)), (2, .int v2), (3, .int v3), (4, .int v4)]) (fun _ => rfl) rfl (fun v5_39 h => ?_)
          refine zr_goto (q := 294) C dX11_names_344 (by decide) ?_
          exact zr_sub [1, 2, 3, 4, 0] rfl (ih v5_39 s38 h)
set_option maxRecDepth 100000 in
set_option maxHeartbeats 4000000 in
theorem zM_ValueBenchModel_names_L246_w {Z : zx_Z} (C : zx_ok zM_sd Z cX11_names 6 RX11 2 47) {r : zx_S} (v2 : Int32) {k364 : zx_S → Option zx_S} (hr : zx_rV zM_sd Z cX11_names 6 r) (h364 : ∀ (s1 : zx_S), k364 s1 = some r → zW zM_sd Z 6 364 [(0, .ref (zz_d Z 0)), (2, .int v2)] [] s1) : ∀ (n : Nat) (v3 : Int32) (s : zx_S), zM_ValueBenchModel_names_L246 v2 k364 n v3 s = some r → zW zM_sd Z 6 246 [(0, .ref (zz_d Z 0)), (2, .int v2), (3, .int v3)] [] s := by
  intro n
  induction n with
  | zero => intro v3 s h; unfold zM_ValueBenchModel_names_L246 at h; cases h
  | succ n ih =>
    intro v3 s h
    unfold zM_ValueBenchModel_names_L246 at h
    refine zr_aload_n C dX11_names_246 (q := 247) rfl 0 rfl rfl ?_
    refine zr_get C dX11_names_247 (q := 250) zM_gX11_37_0 rfl ?_
    refine zr_iload_n C dX11_names_250 (q := 251) rfl 1 rfl rfl ?_
    obtain ⟨hin_251, h⟩ := zx_ck_so h
    refine zr_zald C dX11_names_251 (q := 252) zM_a10 hin_251 rfl ?_
    refine zr_if_eq (tgt := 364) (q := 255) C dX11_names_252 h (by decide) rfl (fun h => ?_) (fun h => ?_)
    · skip
      exact zr_sub [0, 1] rfl (h364 s h)
    · skip
      refine zr_iload_n C dX11_names_255 (q := 256) rfl 2 rfl rfl ?_
      refine zr_bipush C dX11_names_256 (q := 258) (v := (10 : Int32)) (by decide) rfl ?_
      refine zr_icmp_ge (tgt := 364) (q := 261) C dX11_names_258 h (by decide) rfl (fun h => ?_) (fun h => ?_)
      · skip
        exact zr_sub [0, 1] rfl (h364 s h)
      · skip
        refine zr_aload_n C dX11_names_261 (q := 262) rfl 0 rfl rfl ?_
        refine zr_get C dX11_names_262 (q := 265) zM_gX11_53_0 rfl ?_
        refine zr_bipush C dX11_names_265 (q := 267) (v := (10 : Int32)) (by decide) rfl ?_
        refine zr_iload_n C dX11_names_267 (q := 268) rfl 1 rfl rfl ?_
        refine zr_imul C dX11_names_268 (q := 269) rfl ?_
        refine zr_iload_n C dX11_names_269 (q := 270) rfl 2 rfl rfl ?_
        refine zr_iadd C dX11_names_270 (q := 271) rfl ?_
        obtain ⟨hin_271, h⟩ := zx_ck_so h
        refine zr_zald C dX11_names_271 (q := 272) zM_a15 hin_271 rfl ?_
        refine zr_if_ne (tgt := 278) (q := 275) C dX11_names_272 h (by decide) rfl (fun h => ?_) (fun h => ?_)
        · skip
          refine zr_aload_n C dX11_names_278 (q := 279) rfl 0 rfl rfl ?_
          refine zr_get C dX11_names_279 (q := 282) zM_gX11_77_0 rfl ?_
          refine zr_bipush C dX11_names_282 (q := 284) (v := (10 : Int32)) (by decide) rfl ?_
          refine zr_iload_n C dX11_names_284 (q := 285) rfl 1 rfl rfl ?_
          refine zr_imul C dX11_names_285 (q := 286) rfl ?_
          refine zr_iload_n C dX11_names_286 (q := 287) rfl 2 rfl rfl ?_
          refine zr_iadd C dX11_names_287 (q := 288) rfl ?_
          obtain ⟨hin_288, h⟩ := zx_ck_so h
          refine zr_iald C dX11_names_288 (q := 289) zM_a23 hin_288 rfl ?_
          refine zr_top h (fun v4_36 h => ?_)
          refine zr_istore C dX11_names_289 (q := 291) (by decide) (lv' := [(4, .int v4_36), (0, .ref (zz_d Z 0)), (2, .int v2), (3, .int v3)]) rfl rfl ?_
          refine zr_iconst C dX11_names_291 (q := 292) (v := (0 : Int32)) (by decide) rfl ?_
          refine zr_istore C dX11_names_292 (q := 294) (by decide) (lv' := [(5, .int (0 : Int32)), (4, .int v4_36), (0, .ref (zz_d Z 0)), (2, .int v2), (3, .int v3)]) rfl rfl ?_
          refine zr_sub [2, 3, 4, 1, 0] rfl (zM_ValueBenchModel_names_L294_w C v2 v3 v4_36 hr (fun s42 h => ?_) 10000 (0 : Int32) s h)
          · skip
            refine zr_iload_n C dX11_names_347 (q := 348) rfl 1 rfl rfl ?_
            refine zr_if_ne (tgt := 358) (q := 351) C dX11_names_348 h (by decide) rfl (fun h => ?_) (fun h => ?_)
            · skip
              refine zr_iinc C dX11_names_358 (q := 361) h (by decide) 2 rfl (by decide) (lw := fun v3_45 => [(3, .int v3_45), (0, .ref (zz_d Z 0)), (2, .int v2), (4, .int v4_36)]) (fun _ => rfl) rfl (fun v3_45 h => ?_)
              refine zr_goto (q := 246) C dX11_names_361 (by decide) ?_
              exact zr_sub [1, 2, 0] rfl (ih v3_45 s42 h)
            · skip
              refine zr_aload_n C dX11_names_351 (q := 352) rfl 0 rfl rfl ?_
              refine zr_iload C dX11_names_352 (q := 354) 3 rfl rfl ?_
              refine zr_iconst C dX11_names_354 (q := 355) (v := (0 : Int32)) (by decide) rfl ?_
              obtain ⟨s43, hc_355, h⟩ := zx_b1_so h
              refine zr_cvV (q := 358) C (As := [.int v4_36, .int (0 : Int32)]) (k := 0) (rest := []) dX11_names_355 (zM_ValueBenchModel_adds_met C.2.2.2.2.1 C.2.2.2.1 hc_355) zM_vX11_166 zM_o0 ⟨by decide, by decide⟩ rfl (Nat.le_of_ble_eq_true rfl) rfl rfl ?_
              refine zr_iinc C dX11_names_358 (q := 361) h (by decide) 2 rfl (by decide) (lw := fun v3_44 => [(3, .int v3_44), (0, .ref (zz_d Z 0)), (2, .int v2), (4, .int v4_36)]) (fun _ => rfl) rfl (fun v3_44 h => ?_)
              refine zr_goto (q := 246) C dX11_names_361 (by decide) ?_
              exact zr_sub [1, 2, 0] rfl (ih v3_44 s43 h)
        · skip
          refine zr_goto (q := 358) C dX11_names_275 (by decide) ?_
          refine zr_iinc C dX11_names_358 (q := 361) h (by decide) 2 rfl (by decide) (lw := fun v3_35 => [(3, .int v3_35), (0, .ref (zz_d Z 0)), (2, .int v2)]) (fun _ => rfl) rfl (fun v3_35 h => ?_)
          refine zr_goto (q := 246) C dX11_names_361 (by decide) ?_
          exact zr_sub [1, 2, 0] rfl (ih v3_35 s h)
set_option maxRecDepth 100000 in
set_option maxHeartbeats 4000000 in
theorem zM_ValueBenchModel_names_L236_w {Z : zx_Z} (C : zx_ok zM_sd Z cX11_names 6 RX11 2 47) {r : zx_S} {k370 : zx_S → Option zx_S} (hr : zx_rV zM_sd Z cX11_names 6 r) (h370 : ∀ (s1 : zx_S), k370 s1 = some r → zW zM_sd Z 6 370 [] [] s1) : ∀ (n : Nat) (v2 : Int32) (s : zx_S), zM_ValueBenchModel_names_L236 k370 n v2 s = some r → zW zM_sd Z 6 236 [(0, .ref (zz_d Z 0)), (2, .int v2)] [] s := by
  intro n
  induction n with
  | zero => intro v2 s h; unfold zM_ValueBenchModel_names_L236 at h; cases h
  | succ n ih =>
    intro v2 s h
    unfold zM_ValueBenchModel_names_L236 at h
    refine zr_iload_n C dX11_names_236 (q := 237) rfl 1 rfl rfl ?_
    refine zr_aload_n C dX11_names_237 (q := 238) rfl 0 rfl rfl ?_
    refine zr_get C dX11_names_238 (q := 241) zM_gX11_120_0 rfl ?_
    refine zr_icmp_ge (tgt := 370) (q := 244) C dX11_names_241 h (by decide) rfl (fun h => ?_) (fun h => ?_)
    · skip
      exact zr_sub [] rfl (h370 s h)
    · skip
      refine zr_iconst C dX11_names_244 (q := 245) (v := (0 : Int32)) (by decide) rfl ?_
      refine zr_istore_n C dX11_names_245 (q := 246) rfl (by decide) (lv' := [(3, .int (0 : Int32)), (0, .ref (zz_d Z 0)), (2, .int v2)]) rfl rfl ?_
      refine zr_sub [1, 2, 0] rfl (zM_ValueBenchModel_names_L246_w C v2 hr (fun s46 h => ?_) 10000 (0 : Int32) s h)
      · skip
        refine zr_iinc C dX11_names_364 (q := 367) h (by decide) 1 rfl (by decide) (lw := fun v2_47 => [(2, .int v2_47), (0, .ref (zz_d Z 0))]) (fun _ => rfl) rfl (fun v2_47 h => ?_)
        refine zr_goto (q := 236) C dX11_names_367 (by decide) ?_
        exact zr_sub [1, 0] rfl (ih v2_47 s46 h)
set_option maxRecDepth 100000 in
set_option maxHeartbeats 4000000 in
theorem zM_ValueBenchModel_names_w {Z : zx_Z} (C : zx_ok zM_sd Z cX11_names 6 RX11 2 47) {r : zx_S} (s : zx_S) (hr : zx_rV zM_sd Z cX11_names 6 r) (h : zM_ValueBenchModel_names s = some r) : zW zM_sd Z 6 0 [(0, .ref (zz_d Z 0))] [] s := by
  unfold zM_ValueBenchModel_names at h
  refine zr_iconst C dX11_names_0 (q := 1) (v := (0 : Int32)) (by decide) rfl ?_
  refine zr_istore_n C dX11_names_1 (q := 2) rfl (by decide) (lv' := [(1, .int (0 : Int32)), (0, .ref (zz_d Z 0))]) rfl rfl ?_
  refine zr_sub [1, 0] rfl (zM_ValueBenchModel_names_L2_w C hr (fun s5 h => ?_) 10000 (0 : Int32) s h)
  · skip
    refine zr_iconst C dX11_names_36 (q := 37) (v := (1 : Int32)) (by decide) rfl ?_
    refine zr_istore_n C dX11_names_37 (q := 38) rfl (by decide) (lv' := [(1, .int (1 : Int32)), (0, .ref (zz_d Z 0))]) rfl rfl ?_
    refine zr_sub [1, 0] rfl (zM_ValueBenchModel_names_L38_w C hr (fun s34 h => ?_) 10000 (1 : Int32) s5 h)
    · skip
      refine zr_iconst C dX11_names_234 (q := 235) (v := (0 : Int32)) (by decide) rfl ?_
      refine zr_istore_n C dX11_names_235 (q := 236) rfl (by decide) (lv' := [(2, .int (0 : Int32)), (0, .ref (zz_d Z 0))]) rfl rfl ?_
      refine zr_sub [1, 0] rfl (zM_ValueBenchModel_names_L236_w C hr (fun s48 h => ?_) 10000 (0 : Int32) s34 h)
      · skip
        exact zr_retV dX11_names_370 h hr
theorem zM_ValueBenchModel_names_met {l : Launch} {D : va_G} {cz : ClassId × ClassId} {ad : Nat → Nat} (hS : zx_So zM_sd) (hi : zx_I zM_sd ad) {s : zx_S} {s1 : zx_S} (h : zM_ValueBenchModel_names s = some s1) : zx_MV zM_sd l D cz ad yX11_names cX11_names 6 2 47 [.ref (ad 0)] s s1 := zx_metV hS hi (by decide +kernel) rfl (Nat.le_of_ble_eq_true rfl) (fun Z e1 e2 e3 e4 C hr => by subst e1 e2 e3 e4; exact zM_ValueBenchModel_names_w C s hr h)
set_option maxRecDepth 100000 in
set_option maxHeartbeats 4000000 in
theorem zM_ValueBenchModel_isOneSort_w {Z : zx_Z} (C : zx_ok zM_sd Z cX11_isOneSort 4 RX11 0 0) {r : Int32} (p1 p2 : Int32) (s : zx_S) (hr : zx_rI zM_sd Z cX11_isOneSort 4 .boolean r s) (h : zM_ValueBenchModel_isOneSort p1 p2 s = some r) : zW zM_sd Z 4 0 [(0, .ref (zz_d Z 0)), (1, .int p1), (2, .int p2)] [] s := by
  unfold zM_ValueBenchModel_isOneSort at h
  refine zr_aload_n C dX11_isOneSort_0 (q := 1) rfl 0 rfl rfl ?_
  refine zr_get C dX11_isOneSort_1 (q := 4) zM_gX11_56_0 rfl ?_
  refine zr_iload_n C dX11_isOneSort_4 (q := 5) rfl 1 rfl rfl ?_
  obtain ⟨hin_5, h⟩ := zx_ck_so h
  refine zr_iald C dX11_isOneSort_5 (q := 6) zM_a16 hin_5 rfl ?_
  refine zr_top h (fun v3_1 h => ?_)
  refine zr_istore_n C dX11_isOneSort_6 (q := 7) rfl (by decide) (lv' := [(3, .int v3_1), (0, .ref (zz_d Z 0)), (1, .int p1), (2, .int p2)]) rfl rfl ?_
  refine zr_iload_n C dX11_isOneSort_7 (q := 8) rfl 0 rfl rfl ?_
  refine zr_aload_n C dX11_isOneSort_8 (q := 9) rfl 1 rfl rfl ?_
  refine zr_get C dX11_isOneSort_9 (q := 12) zM_gX11_56_0 rfl ?_
  refine zr_iload_n C dX11_isOneSort_12 (q := 13) rfl 3 rfl rfl ?_
  obtain ⟨hin_13, h⟩ := zx_ck_so h
  refine zr_iald C dX11_isOneSort_13 (q := 14) zM_a16 hin_13 rfl ?_
  refine zr_icmp_ne (tgt := 62) (q := 17) C dX11_isOneSort_14 h (by decide) rfl (fun h => ?_) (fun h => ?_)
  · skip
    refine zr_iconst C dX11_isOneSort_62 (q := 63) (v := (0 : Int32)) (by decide) rfl ?_
    exact zr_retZR dX11_isOneSort_63 (Or.inl rfl) h hr
  · skip
    refine zr_iload_n C dX11_isOneSort_17 (q := 18) rfl 0 rfl rfl ?_
    refine zr_iconst C dX11_isOneSort_18 (q := 19) (v := (1 : Int32)) (by decide) rfl ?_
    refine zr_icmp_gt (tgt := 37) (q := 22) C dX11_isOneSort_19 h (by decide) rfl (fun h => ?_) (fun h => ?_)
    · skip
      refine zr_iload_n C dX11_isOneSort_37 (q := 38) rfl 0 rfl rfl ?_
      refine zr_bipush C dX11_isOneSort_38 (q := 40) (v := (15 : Int32)) (by decide) rfl ?_
      refine zr_icmp_ne (tgt := 58) (q := 43) C dX11_isOneSort_40 h (by decide) rfl (fun h => ?_) (fun h => ?_)
      · skip
        refine zr_iconst C dX11_isOneSort_58 (q := 59) (v := (1 : Int32)) (by decide) rfl ?_
        refine zr_goto (q := 63) C dX11_isOneSort_59 (by decide) ?_
        exact zr_retZR dX11_isOneSort_63 (Or.inr rfl) h hr
      · skip
        refine zr_aload_n C dX11_isOneSort_43 (q := 44) rfl 1 rfl rfl ?_
        refine zr_get C dX11_isOneSort_44 (q := 47) zM_gX11_59_0 rfl ?_
        refine zr_iload_n C dX11_isOneSort_47 (q := 48) rfl 2 rfl rfl ?_
        obtain ⟨hin_48, h⟩ := zx_ck_so h
        refine zr_iald C dX11_isOneSort_48 (q := 49) zM_a17 hin_48 rfl ?_
        refine zr_aload_n C dX11_isOneSort_49 (q := 50) rfl 1 rfl rfl ?_
        refine zr_get C dX11_isOneSort_50 (q := 53) zM_gX11_59_0 rfl ?_
        refine zr_iload_n C dX11_isOneSort_53 (q := 54) rfl 3 rfl rfl ?_
        obtain ⟨hin_54, h⟩ := zx_ck_so h
        refine zr_iald C dX11_isOneSort_54 (q := 55) zM_a17 hin_54 rfl ?_
        refine zr_icmp_ne (tgt := 62) (q := 58) C dX11_isOneSort_55 h (by decide) rfl (fun h => ?_) (fun h => ?_)
        · skip
          refine zr_iconst C dX11_isOneSort_62 (q := 63) (v := (0 : Int32)) (by decide) rfl ?_
          exact zr_retZR dX11_isOneSort_63 (Or.inl rfl) h hr
        · skip
          refine zr_iconst C dX11_isOneSort_58 (q := 59) (v := (1 : Int32)) (by decide) rfl ?_
          refine zr_goto (q := 63) C dX11_isOneSort_59 (by decide) ?_
          exact zr_retZR dX11_isOneSort_63 (Or.inr rfl) h hr
    · skip
      refine zr_aload_n C dX11_isOneSort_22 (q := 23) rfl 1 rfl rfl ?_
      refine zr_get C dX11_isOneSort_23 (q := 26) zM_gX11_65_0 rfl ?_
      refine zr_iload_n C dX11_isOneSort_26 (q := 27) rfl 2 rfl rfl ?_
      obtain ⟨hin_27, h⟩ := zx_ck_so h
      refine zr_iald C dX11_isOneSort_27 (q := 28) zM_a19 hin_27 rfl ?_
      refine zr_aload_n C dX11_isOneSort_28 (q := 29) rfl 1 rfl rfl ?_
      refine zr_get C dX11_isOneSort_29 (q := 32) zM_gX11_65_0 rfl ?_
      refine zr_iload_n C dX11_isOneSort_32 (q := 33) rfl 3 rfl rfl ?_
      obtain ⟨hin_33, h⟩ := zx_ck_so h
      refine zr_iald C dX11_isOneSort_33 (q := 34) zM_a19 hin_33 rfl ?_
      refine zr_icmp_ne (tgt := 62) (q := 37) C dX11_isOneSort_34 h (by decide) rfl (fun h => ?_) (fun h => ?_)
      · skip
        refine zr_iconst C dX11_isOneSort_62 (q := 63) (v := (0 : Int32)) (by decide) rfl ?_
        exact zr_retZR dX11_isOneSort_63 (Or.inl rfl) h hr
      · skip
        refine zr_iload_n C dX11_isOneSort_37 (q := 38) rfl 0 rfl rfl ?_
        refine zr_bipush C dX11_isOneSort_38 (q := 40) (v := (15 : Int32)) (by decide) rfl ?_
        refine zr_icmp_ne (tgt := 58) (q := 43) C dX11_isOneSort_40 h (by decide) rfl (fun h => ?_) (fun h => ?_)
        · skip
          refine zr_iconst C dX11_isOneSort_58 (q := 59) (v := (1 : Int32)) (by decide) rfl ?_
          refine zr_goto (q := 63) C dX11_isOneSort_59 (by decide) ?_
          exact zr_retZR dX11_isOneSort_63 (Or.inr rfl) h hr
        · skip
          refine zr_aload_n C dX11_isOneSort_43 (q := 44) rfl 1 rfl rfl ?_
          refine zr_get C dX11_isOneSort_44 (q := 47) zM_gX11_59_0 rfl ?_
          refine zr_iload_n C dX11_isOneSort_47 (q := 48) rfl 2 rfl rfl ?_
          obtain ⟨hin_48, h⟩ := zx_ck_so h
          refine zr_iald C dX11_isOneSort_48 (q := 49) zM_a17 hin_48 rfl ?_
          refine zr_aload_n C dX11_isOneSort_49 (q := 50) rfl 1 rfl rfl ?_
          refine zr_get C dX11_isOneSort_50 (q := 53) zM_gX11_59_0 rfl ?_
          refine zr_iload_n C dX11_isOneSort_53 (q := 54) rfl 3 rfl rfl ?_
          obtain ⟨hin_54, h⟩ := zx_ck_so h
          refine zr_iald C dX11_isOneSort_54 (q := 55) zM_a17 hin_54 rfl ?_
          refine zr_icmp_ne (tgt := 62) (q := 58) C dX11_isOneSort_55 h (by decide) rfl (fun h => ?_) (fun h => ?_)
          · skip
            refine zr_iconst C dX11_isOneSort_62 (q := 63) (v := (0 : Int32)) (by decide) rfl ?_
            exact zr_retZR dX11_isOneSort_63 (Or.inl rfl) h hr
          · skip
            refine zr_iconst C dX11_isOneSort_58 (q := 59) (v := (1 : Int32)) (by decide) rfl ?_
            refine zr_goto (q := 63) C dX11_isOneSort_59 (by decide) ?_
            exact zr_retZR dX11_isOneSort_63 (Or.inr rfl) h hr
theorem zM_ValueBenchModel_isOneSort_met {l : Launch} {D : va_G} {cz : ClassId × ClassId} {ad : Nat → Nat} (hS : zx_So zM_sd) (hi : zx_I zM_sd ad) {p1 p2 : Int32} {s : zx_S} {v : Int32} (h : zM_ValueBenchModel_isOneSort p1 p2 s = some v) : zx_MI zM_sd l D cz ad yX11_isOneSort cX11_isOneSort 4 .boolean 0 0 [.ref (ad 0), .int p1, .int p2] s v s := zx_metI hS hi (by decide +kernel) rfl (Nat.le_of_ble_eq_true rfl) (fun Z e1 e2 e3 e4 C hr => by subst e1 e2 e3 e4; exact zM_ValueBenchModel_isOneSort_w C p1 p2 s hr h)
set_option maxRecDepth 100000 in
set_option maxHeartbeats 4000000 in
theorem zM_ValueBenchModel_isEven_w {Z : zx_Z} (C : zx_ok zM_sd Z cX11_isEven 1 RX11 0 0) {r : Int32} (p0 : Int32) (s : zx_S) (hr : zx_rI zM_sd Z cX11_isEven 1 .boolean r s) (h : zM_ValueBenchModel_isEven p0 s = some r) : zW zM_sd Z 1 0 [(0, .int p0)] [] s := by
  unfold zM_ValueBenchModel_isEven at h
  refine zr_iload_n C dX11_isEven_0 (q := 1) rfl 0 rfl rfl ?_
  refine zr_iconst C dX11_isEven_1 (q := 2) (v := (3 : Int32)) (by decide) rfl ?_
  refine zr_icmp_eq (tgt := 16) (q := 5) C dX11_isEven_2 h (by decide) rfl (fun h => ?_) (fun h => ?_)
  · skip
    refine zr_iconst C dX11_isEven_16 (q := 17) (v := (1 : Int32)) (by decide) rfl ?_
    refine zr_goto (q := 21) C dX11_isEven_17 (by decide) ?_
    exact zr_retZR dX11_isEven_21 (Or.inr rfl) h hr
  · skip
    refine zr_iload_n C dX11_isEven_5 (q := 6) rfl 0 rfl rfl ?_
    refine zr_iconst C dX11_isEven_6 (q := 7) (v := (5 : Int32)) (by decide) rfl ?_
    refine zr_icmp_lt (tgt := 20) (q := 10) C dX11_isEven_7 h (by decide) rfl (fun h => ?_) (fun h => ?_)
    · skip
      refine zr_iconst C dX11_isEven_20 (q := 21) (v := (0 : Int32)) (by decide) rfl ?_
      exact zr_retZR dX11_isEven_21 (Or.inl rfl) h hr
    · skip
      refine zr_iload_n C dX11_isEven_10 (q := 11) rfl 0 rfl rfl ?_
      refine zr_bipush C dX11_isEven_11 (q := 13) (v := (9 : Int32)) (by decide) rfl ?_
      refine zr_icmp_gt (tgt := 20) (q := 16) C dX11_isEven_13 h (by decide) rfl (fun h => ?_) (fun h => ?_)
      · skip
        refine zr_iconst C dX11_isEven_20 (q := 21) (v := (0 : Int32)) (by decide) rfl ?_
        exact zr_retZR dX11_isEven_21 (Or.inl rfl) h hr
      · skip
        refine zr_iconst C dX11_isEven_16 (q := 17) (v := (1 : Int32)) (by decide) rfl ?_
        refine zr_goto (q := 21) C dX11_isEven_17 (by decide) ?_
        exact zr_retZR dX11_isEven_21 (Or.inr rfl) h hr
theorem zM_ValueBenchModel_isEven_met {l : Launch} {D : va_G} {cz : ClassId × ClassId} {ad : Nat → Nat} (hS : zx_So zM_sd) (hi : zx_I zM_sd ad) {p0 : Int32} {s : zx_S} {v : Int32} (h : zM_ValueBenchModel_isEven p0 s = some v) : zx_MI zM_sd l D cz ad yX11_isEven cX11_isEven 1 .boolean 0 0 [.int p0] s v s := zx_metI hS hi (by decide +kernel) rfl (Nat.le_of_ble_eq_true rfl) (fun Z e1 e2 e3 e4 C hr => by subst e1 e2 e3 e4; exact zM_ValueBenchModel_isEven_w C p0 s hr h)
set_option maxRecDepth 100000 in
set_option maxHeartbeats 4000000 in
theorem zM_ValueBenchModel_hangTogether_L5_w {Z : zx_Z} (C : zx_ok zM_sd Z cX11_hangTogether 5 RX11 1 20) {r : Int32} (v1 v2 : Int32) (s : zx_S) {k69 : Int32 → Option Int32} (hr : zx_rI zM_sd Z cX11_hangTogether 5 .boolean r s) (h69 : ∀ (a0 : Int32), k69 a0 = some r → zW zM_sd Z 5 69 [(0, .ref (zz_d Z 0)), (1, .int v1), (2, .int v2), (3, .int a0)] [] s) : ∀ (n : Nat) (v3 : Int32) (v4 : Int32), zM_ValueBenchModel_hangTogether_L5 v1 v2 s k69 n v3 v4 = some r → zW zM_sd Z 5 5 [(0, .ref (zz_d Z 0)), (1, .int v1), (2, .int v2), (3, .int v3), (4, .int v4)] [] s := by
  intro n
  induction n with
  | zero => intro v3 v4 h; unfold zM_ValueBenchModel_hangTogether_L5 at h; cases h
  | succ n ih =>
    intro v3 v4 h
    unfold zM_ValueBenchModel_hangTogether_L5 at h
    refine zr_iload C dX11_hangTogether_5 (q := 7) 4 rfl rfl ?_
    refine zr_aload_n C dX11_hangTogether_7 (q := 8) rfl 0 rfl rfl ?_
    refine zr_get C dX11_hangTogether_8 (q := 11) zM_gX11_74_0 rfl ?_
    refine zr_iload_n C dX11_hangTogether_11 (q := 12) rfl 1 rfl rfl ?_
    obtain ⟨hin_12, h⟩ := zx_ck_so h
    refine zr_iald C dX11_hangTogether_12 (q := 13) zM_a22 hin_12 rfl ?_
    refine zr_icmp_ge (tgt := 69) (q := 16) C dX11_hangTogether_13 h (by decide) rfl (fun h => ?_) (fun h => ?_)
    · skip
      exact zr_sub [0, 1, 2, 3] rfl (h69 v3 h)
    · skip
      refine zr_iload_n C dX11_hangTogether_16 (q := 17) rfl 3 rfl rfl ?_
      refine zr_if_eq (tgt := 61) (q := 20) C dX11_hangTogether_17 h (by decide) rfl (fun h => ?_) (fun h => ?_)
      · skip
        refine zr_iconst C dX11_hangTogether_61 (q := 62) (v := (0 : Int32)) (by decide) rfl ?_
        refine zr_istore_n C dX11_hangTogether_62 (q := 63) rfl (by decide) (lv' := [(3, .int (0 : Int32)), (0, .ref (zz_d Z 0)), (1, .int v1), (2, .int v2), (4, .int v4)]) rfl rfl ?_
        refine zr_iinc C dX11_hangTogether_63 (q := 66) h (by decide) 4 rfl (by decide) (lw := fun v4_3 => [(4, .int v4_3), (3, .int (0 : Int32)), (0, .ref (zz_d Z 0)), (1, .int v1), (2, .int v2)]) (fun _ => rfl) rfl (fun v4_3 h => ?_)
        refine zr_goto (q := 5) C dX11_hangTogether_66 (by decide) ?_
        exact zr_sub [2, 3, 4, 1, 0] rfl (ih (0 : Int32) v4_3 h)
      · skip
        refine zr_aload_n C dX11_hangTogether_20 (q := 21) rfl 0 rfl rfl ?_
        refine zr_get C dX11_hangTogether_21 (q := 24) zM_gX11_92_0 rfl ?_
        refine zr_aload_n C dX11_hangTogether_24 (q := 25) rfl 0 rfl rfl ?_
        refine zr_get C dX11_hangTogether_25 (q := 28) zM_gX11_71_0 rfl ?_
        refine zr_bipush C dX11_hangTogether_28 (q := 30) (v := (20 : Int32)) (by decide) rfl ?_
        refine zr_iload_n C dX11_hangTogether_30 (q := 31) rfl 1 rfl rfl ?_
        refine zr_imul C dX11_hangTogether_31 (q := 32) rfl ?_
        refine zr_iload C dX11_hangTogether_32 (q := 34) 4 rfl rfl ?_
        refine zr_iadd C dX11_hangTogether_34 (q := 35) rfl ?_
        obtain ⟨hin_35, h⟩ := zx_ck_so h
        refine zr_iald C dX11_hangTogether_35 (q := 36) zM_a21 hin_35 rfl ?_
        obtain ⟨hin_36, h⟩ := zx_ck_so h
        refine zr_iald C dX11_hangTogether_36 (q := 37) zM_a28 hin_36 rfl ?_
        refine zr_aload_n C dX11_hangTogether_37 (q := 38) rfl 0 rfl rfl ?_
        refine zr_get C dX11_hangTogether_38 (q := 41) zM_gX11_92_0 rfl ?_
        refine zr_aload_n C dX11_hangTogether_41 (q := 42) rfl 0 rfl rfl ?_
        refine zr_get C dX11_hangTogether_42 (q := 45) zM_gX11_71_0 rfl ?_
        refine zr_bipush C dX11_hangTogether_45 (q := 47) (v := (20 : Int32)) (by decide) rfl ?_
        refine zr_iload_n C dX11_hangTogether_47 (q := 48) rfl 2 rfl rfl ?_
        refine zr_imul C dX11_hangTogether_48 (q := 49) rfl ?_
        refine zr_iload C dX11_hangTogether_49 (q := 51) 4 rfl rfl ?_
        refine zr_iadd C dX11_hangTogether_51 (q := 52) rfl ?_
        obtain ⟨hin_52, h⟩ := zx_ck_so h
        refine zr_iald C dX11_hangTogether_52 (q := 53) zM_a21 hin_52 rfl ?_
        obtain ⟨hin_53, h⟩ := zx_ck_so h
        refine zr_iald C dX11_hangTogether_53 (q := 54) zM_a28 hin_53 rfl ?_
        refine zr_icmp_ne (tgt := 61) (q := 57) C dX11_hangTogether_54 h (by decide) rfl (fun h => ?_) (fun h => ?_)
        · skip
          refine zr_iconst C dX11_hangTogether_61 (q := 62) (v := (0 : Int32)) (by decide) rfl ?_
          refine zr_istore_n C dX11_hangTogether_62 (q := 63) rfl (by decide) (lv' := [(3, .int (0 : Int32)), (0, .ref (zz_d Z 0)), (1, .int v1), (2, .int v2), (4, .int v4)]) rfl rfl ?_
          refine zr_iinc C dX11_hangTogether_63 (q := 66) h (by decide) 4 rfl (by decide) (lw := fun v4_2 => [(4, .int v4_2), (3, .int (0 : Int32)), (0, .ref (zz_d Z 0)), (1, .int v1), (2, .int v2)]) (fun _ => rfl) rfl (fun v4_2 h => ?_)
          refine zr_goto (q := 5) C dX11_hangTogether_66 (by decide) ?_
          exact zr_sub [2, 3, 4, 1, 0] rfl (ih (0 : Int32) v4_2 h)
        · skip
          refine zr_iconst C dX11_hangTogether_57 (q := 58) (v := (1 : Int32)) (by decide) rfl ?_
          refine zr_goto (q := 62) C dX11_hangTogether_58 (by decide) ?_
          refine zr_istore_n C dX11_hangTogether_62 (q := 63) rfl (by decide) (lv' := [(3, .int (1 : Int32)), (0, .ref (zz_d Z 0)), (1, .int v1), (2, .int v2), (4, .int v4)]) rfl rfl ?_
          refine zr_iinc C dX11_hangTogether_63 (q := 66) h (by decide) 4 rfl (by decide) (lw := fun v4_1 => [(4, .int v4_1), (3, .int (1 : Int32)), (0, .ref (zz_d Z 0)), (1, .int v1), (2, .int v2)]) (fun _ => rfl) rfl (fun v4_1 h => ?_)
          refine zr_goto (q := 5) C dX11_hangTogether_66 (by decide) ?_
          exact zr_sub [2, 3, 4, 1, 0] rfl (ih (1 : Int32) v4_1 h)
set_option maxRecDepth 100000 in
set_option maxHeartbeats 4000000 in
theorem zM_ValueBenchModel_hangTogether_w {Z : zx_Z} (C : zx_ok zM_sd Z cX11_hangTogether 5 RX11 1 20) {r : Int32} (p1 p2 : Int32) (s : zx_S) (hr : zx_rI zM_sd Z cX11_hangTogether 5 .boolean r s) (h : zM_ValueBenchModel_hangTogether p1 p2 s = some r) : zW zM_sd Z 5 0 [(0, .ref (zz_d Z 0)), (1, .int p1), (2, .int p2)] [] s := by
  unfold zM_ValueBenchModel_hangTogether at h
  refine zr_iconst C dX11_hangTogether_0 (q := 1) (v := (1 : Int32)) (by decide) rfl ?_
  refine zr_istore_n C dX11_hangTogether_1 (q := 2) rfl (by decide) (lv' := [(3, .int (1 : Int32)), (0, .ref (zz_d Z 0)), (1, .int p1), (2, .int p2)]) rfl rfl ?_
  refine zr_iconst C dX11_hangTogether_2 (q := 3) (v := (0 : Int32)) (by decide) rfl ?_
  refine zr_istore C dX11_hangTogether_3 (q := 5) (by decide) (lv' := [(4, .int (0 : Int32)), (3, .int (1 : Int32)), (0, .ref (zz_d Z 0)), (1, .int p1), (2, .int p2)]) rfl rfl ?_
  refine zr_sub [2, 3, 4, 1, 0] rfl (zM_ValueBenchModel_hangTogether_L5_w C p1 p2 s hr (fun v3_4 h => ?_) 10000 (1 : Int32) (0 : Int32) h)
  · skip
    refine zr_iload_n C dX11_hangTogether_69 (q := 70) rfl 3 rfl rfl ?_
    refine zr_if_ne (tgt := 85) (q := 73) C dX11_hangTogether_70 h (by decide) rfl (fun h => ?_) (fun h => ?_)
    · skip
      refine zr_iload_n C dX11_hangTogether_85 (q := 86) rfl 3 rfl rfl ?_
      obtain ⟨hb9, h⟩ := zx_zr_so h
      exact zr_retZR dX11_hangTogether_86 hb9 h hr
    · skip
      refine zr_aload_n C dX11_hangTogether_73 (q := 74) rfl 0 rfl rfl ?_
      refine zr_get C dX11_hangTogether_74 (q := 77) zM_gX11_56_0 rfl ?_
      refine zr_iload_n C dX11_hangTogether_77 (q := 78) rfl 1 rfl rfl ?_
      obtain ⟨hin_78, h⟩ := zx_ck_so h
      refine zr_iald C dX11_hangTogether_78 (q := 79) zM_a16 hin_78 rfl ?_
      obtain ⟨r5, hc_79, h⟩ := zx_b1_so h
      refine zr_csI (q := 82) C (As := [.int (s 16 (p1).toNatClampNeg)]) (rest := []) dX11_hangTogether_79 (zM_ValueBenchModel_isEven_met C.2.2.2.2.1 C.2.2.2.1 hc_79) zM_sX11_170 ⟨by decide, by decide⟩ rfl (Nat.le_of_ble_eq_true rfl) rfl rfl ?_
      refine zr_if_ne (tgt := 87) (q := 85) C dX11_hangTogether_82 h (by decide) rfl (fun h => ?_) (fun h => ?_)
      · skip
        refine zr_aload_n C dX11_hangTogether_87 (q := 88) rfl 0 rfl rfl ?_
        refine zr_get C dX11_hangTogether_88 (q := 91) zM_gX11_92_0 rfl ?_
        refine zr_aload_n C dX11_hangTogether_91 (q := 92) rfl 0 rfl rfl ?_
        refine zr_get C dX11_hangTogether_92 (q := 95) zM_gX11_71_0 rfl ?_
        refine zr_bipush C dX11_hangTogether_95 (q := 97) (v := (20 : Int32)) (by decide) rfl ?_
        refine zr_iload_n C dX11_hangTogether_97 (q := 98) rfl 1 rfl rfl ?_
        refine zr_imul C dX11_hangTogether_98 (q := 99) rfl ?_
        obtain ⟨hin_99, h⟩ := zx_ck_so h
        refine zr_iald C dX11_hangTogether_99 (q := 100) zM_a21 hin_99 rfl ?_
        obtain ⟨hin_100, h⟩ := zx_ck_so h
        refine zr_iald C dX11_hangTogether_100 (q := 101) zM_a28 hin_100 rfl ?_
        refine zr_aload_n C dX11_hangTogether_101 (q := 102) rfl 0 rfl rfl ?_
        refine zr_get C dX11_hangTogether_102 (q := 105) zM_gX11_92_0 rfl ?_
        refine zr_aload_n C dX11_hangTogether_105 (q := 106) rfl 0 rfl rfl ?_
        refine zr_get C dX11_hangTogether_106 (q := 109) zM_gX11_71_0 rfl ?_
        refine zr_bipush C dX11_hangTogether_109 (q := 111) (v := (20 : Int32)) (by decide) rfl ?_
        refine zr_iload_n C dX11_hangTogether_111 (q := 112) rfl 2 rfl rfl ?_
        refine zr_imul C dX11_hangTogether_112 (q := 113) rfl ?_
        refine zr_iconst C dX11_hangTogether_113 (q := 114) (v := (1 : Int32)) (by decide) rfl ?_
        refine zr_iadd C dX11_hangTogether_114 (q := 115) rfl ?_
        obtain ⟨hin_115, h⟩ := zx_ck_so h
        refine zr_iald C dX11_hangTogether_115 (q := 116) zM_a21 hin_115 rfl ?_
        obtain ⟨hin_116, h⟩ := zx_ck_so h
        refine zr_iald C dX11_hangTogether_116 (q := 117) zM_a28 hin_116 rfl ?_
        refine zr_icmp_ne (tgt := 157) (q := 120) C dX11_hangTogether_117 h (by decide) rfl (fun h => ?_) (fun h => ?_)
        · skip
          refine zr_iconst C dX11_hangTogether_157 (q := 158) (v := (0 : Int32)) (by decide) rfl ?_
          exact zr_retZR dX11_hangTogether_158 (Or.inl rfl) h hr
        · skip
          refine zr_aload_n C dX11_hangTogether_120 (q := 121) rfl 0 rfl rfl ?_
          refine zr_get C dX11_hangTogether_121 (q := 124) zM_gX11_92_0 rfl ?_
          refine zr_aload_n C dX11_hangTogether_124 (q := 125) rfl 0 rfl rfl ?_
          refine zr_get C dX11_hangTogether_125 (q := 128) zM_gX11_71_0 rfl ?_
          refine zr_bipush C dX11_hangTogether_128 (q := 130) (v := (20 : Int32)) (by decide) rfl ?_
          refine zr_iload_n C dX11_hangTogether_130 (q := 131) rfl 1 rfl rfl ?_
          refine zr_imul C dX11_hangTogether_131 (q := 132) rfl ?_
          refine zr_iconst C dX11_hangTogether_132 (q := 133) (v := (1 : Int32)) (by decide) rfl ?_
          refine zr_iadd C dX11_hangTogether_133 (q := 134) rfl ?_
          obtain ⟨hin_134, h⟩ := zx_ck_so h
          refine zr_iald C dX11_hangTogether_134 (q := 135) zM_a21 hin_134 rfl ?_
          obtain ⟨hin_135, h⟩ := zx_ck_so h
          refine zr_iald C dX11_hangTogether_135 (q := 136) zM_a28 hin_135 rfl ?_
          refine zr_aload_n C dX11_hangTogether_136 (q := 137) rfl 0 rfl rfl ?_
          refine zr_get C dX11_hangTogether_137 (q := 140) zM_gX11_92_0 rfl ?_
          refine zr_aload_n C dX11_hangTogether_140 (q := 141) rfl 0 rfl rfl ?_
          refine zr_get C dX11_hangTogether_141 (q := 144) zM_gX11_71_0 rfl ?_
          refine zr_bipush C dX11_hangTogether_144 (q := 146) (v := (20 : Int32)) (by decide) rfl ?_
          refine zr_iload_n C dX11_hangTogether_146 (q := 147) rfl 2 rfl rfl ?_
          refine zr_imul C dX11_hangTogether_147 (q := 148) rfl ?_
          obtain ⟨hin_148, h⟩ := zx_ck_so h
          refine zr_iald C dX11_hangTogether_148 (q := 149) zM_a21 hin_148 rfl ?_
          obtain ⟨hin_149, h⟩ := zx_ck_so h
          refine zr_iald C dX11_hangTogether_149 (q := 150) zM_a28 hin_149 rfl ?_
          refine zr_icmp_ne (tgt := 157) (q := 153) C dX11_hangTogether_150 h (by decide) rfl (fun h => ?_) (fun h => ?_)
          · skip
            refine zr_iconst C dX11_hangTogether_157 (q := 158) (v := (0 : Int32)) (by decide) rfl ?_
            exact zr_retZR dX11_hangTogether_158 (Or.inl rfl) h hr
          · skip
            refine zr_iconst C dX11_hangTogether_153 (q := 154) (v := (1 : Int32)) (by decide) rfl ?_
            refine zr_goto (q := 158) C dX11_hangTogether_154 (by decide) ?_
            exact zr_retZR dX11_hangTogether_158 (Or.inr rfl) h hr
      · skip
        refine zr_iload_n C dX11_hangTogether_85 (q := 86) rfl 3 rfl rfl ?_
        obtain ⟨hb9, h⟩ := zx_zr_so h
        exact zr_retZR dX11_hangTogether_86 hb9 h hr
theorem zM_ValueBenchModel_hangTogether_met {l : Launch} {D : va_G} {cz : ClassId × ClassId} {ad : Nat → Nat} (hS : zx_So zM_sd) (hi : zx_I zM_sd ad) {p1 p2 : Int32} {s : zx_S} {v : Int32} (h : zM_ValueBenchModel_hangTogether p1 p2 s = some v) : zx_MI zM_sd l D cz ad yX11_hangTogether cX11_hangTogether 5 .boolean 1 20 [.ref (ad 0), .int p1, .int p2] s v s := zx_metI hS hi (by decide +kernel) rfl (Nat.le_of_ble_eq_true rfl) (fun Z e1 e2 e3 e4 C hr => by subst e1 e2 e3 e4; exact zM_ValueBenchModel_hangTogether_w C p1 p2 s hr h)
