set_option maxRecDepth 100000 in
set_option maxHeartbeats 4000000 in
theorem zX_Values_beginBlock_L16_w {Z : zx_Z} (C : zx_ok zX_sd Z cX9_beginBlock 6 RX9 0 0) {r : zx_S} (v2 v3 v4 : Int32) {k61 : zx_S → Option zx_S} (hr : zx_rV zX_sd Z cX9_beginBlock 6 r) (h61 : ∀ (s1 : zx_S), k61 s1 = some r → zW zX_sd Z 6 61 [(0, .ref (zz_d Z 18)), (2, .int v2), (3, .int v3)] [] s1) : ∀ (n : Nat) (v5 : Int32) (s : zx_S), zX_Values_beginBlock_L16 v2 v3 v4 k61 n v5 s = some r → zW zX_sd Z 6 16 [(0, .ref (zz_d Z 18)), (2, .int v2), (3, .int v3), (4, .int v4), (5, .int v5)] [] s := by
  intro n
  induction n with
  | zero => intro v5 s h; unfold zX_Values_beginBlock_L16 at h; cases h
  | succ n ih =>
    intro v5 s h
    unfold zX_Values_beginBlock_L16 at h
    refine zr_iload C dX9_beginBlock_16 (q := 18) 4 rfl rfl ?_
    refine zr_bipush C dX9_beginBlock_18 (q := 20) (v := (10 : Int32)) (by decide) rfl ?_
    refine zr_icmp_ge (tgt := 61) (q := 23) C dX9_beginBlock_20 h (by decide) rfl (fun h => ?_) (fun h => ?_)
    · skip
      exact zr_sub [0, 1, 2] rfl (h61 s h)
    · skip
      refine zr_aload_n C dX9_beginBlock_23 (q := 24) rfl 0 rfl rfl ?_
      refine zr_get C dX9_beginBlock_24 (q := 27) zX_gX9_46_18 rfl ?_
      refine zr_iload_n C dX9_beginBlock_27 (q := 28) rfl 2 rfl rfl ?_
      refine zr_iload C dX9_beginBlock_28 (q := 30) 4 rfl rfl ?_
      refine zr_iadd C dX9_beginBlock_30 (q := 31) rfl ?_
      refine zr_iload C dX9_beginBlock_31 (q := 33) 3 rfl rfl ?_
      refine zr_iconst C dX9_beginBlock_33 (q := 34) (v := (-1 : Int32)) (by decide) rfl ?_
      refine zr_icmp_ne (tgt := 41) (q := 37) C dX9_beginBlock_34 h (by decide) rfl (fun h => ?_) (fun h => ?_)
      · skip
        refine zr_aload_n C dX9_beginBlock_41 (q := 42) rfl 0 rfl rfl ?_
        refine zr_get C dX9_beginBlock_42 (q := 45) zX_gX9_46_18 rfl ?_
        refine zr_iload C dX9_beginBlock_45 (q := 47) 3 rfl rfl ?_
        refine zr_bipush C dX9_beginBlock_47 (q := 49) (v := (10 : Int32)) (by decide) rfl ?_
        refine zr_imul C dX9_beginBlock_49 (q := 50) rfl ?_
        refine zr_iload C dX9_beginBlock_50 (q := 52) 4 rfl rfl ?_
        refine zr_iadd C dX9_beginBlock_52 (q := 53) rfl ?_
        obtain ⟨hin_53, h⟩ := zx_ck_so h
        refine zr_iald C dX9_beginBlock_53 (q := 54) zX_a32 hin_53 rfl ?_
        refine zr_top h (fun x5 h => ?_)
        obtain ⟨hin_54, h⟩ := zx_ck_so h
        refine zr_iast C dX9_beginBlock_54 (q := 55) zX_a32 hin_54 rfl ?_
        refine zr_ls h (fun s6 h => ?_)
        refine zr_iinc C dX9_beginBlock_55 (q := 58) h (by decide) 4 rfl (by decide) (lw := fun v5_7 => [(5, .int v5_7), (0, .ref (zz_d Z 18)), (2, .int v2), (3, .int v3), (4, .int v4)]) (fun _ => rfl) rfl (fun v5_7 h => ?_)
        refine zr_goto (q := 16) C dX9_beginBlock_58 (by decide) ?_
        exact zr_sub [1, 2, 3, 4, 0] rfl (ih v5_7 s6 h)
      · skip
        refine zr_iconst C dX9_beginBlock_37 (q := 38) (v := (0 : Int32)) (by decide) rfl ?_
        refine zr_goto (q := 54) C dX9_beginBlock_38 (by decide) ?_
        obtain ⟨hin_54, h⟩ := zx_ck_so h
        refine zr_iast C dX9_beginBlock_54 (q := 55) zX_a32 hin_54 rfl ?_
        refine zr_ls h (fun s3 h => ?_)
        refine zr_iinc C dX9_beginBlock_55 (q := 58) h (by decide) 4 rfl (by decide) (lw := fun v5_4 => [(5, .int v5_4), (0, .ref (zz_d Z 18)), (2, .int v2), (3, .int v3), (4, .int v4)]) (fun _ => rfl) rfl (fun v5_4 h => ?_)
        refine zr_goto (q := 16) C dX9_beginBlock_58 (by decide) ?_
        exact zr_sub [1, 2, 3, 4, 0] rfl (ih v5_4 s3 h)
set_option maxRecDepth 100000 in
set_option maxHeartbeats 4000000 in
theorem zX_Values_beginBlock_L69_w {Z : zx_Z} (C : zx_ok zX_sd Z cX9_beginBlock 6 RX9 0 0) {r : zx_S} (v2 v3 : Int32) {k109 : zx_S → Option zx_S} (hr : zx_rV zX_sd Z cX9_beginBlock 6 r) (h109 : ∀ (s1 : zx_S), k109 s1 = some r → zW zX_sd Z 6 109 [] [] s1) : ∀ (n : Nat) (v5 : Int32) (s : zx_S), zX_Values_beginBlock_L69 v2 v3 k109 n v5 s = some r → zW zX_sd Z 6 69 [(0, .ref (zz_d Z 18)), (2, .int v2), (3, .int v3), (5, .int v5)] [] s := by
  intro n
  induction n with
  | zero => intro v5 s h; unfold zX_Values_beginBlock_L69 at h; cases h
  | succ n ih =>
    intro v5 s h
    unfold zX_Values_beginBlock_L69 at h
    refine zr_iload C dX9_beginBlock_69 (q := 71) 3 rfl rfl ?_
    refine zr_aload_n C dX9_beginBlock_71 (q := 72) rfl 0 rfl rfl ?_
    refine zr_get C dX9_beginBlock_72 (q := 75) zX_gX9_37_18 rfl ?_
    refine zr_iload_n C dX9_beginBlock_75 (q := 76) rfl 1 rfl rfl ?_
    obtain ⟨hin_76, h⟩ := zx_ck_so h
    refine zr_iald C dX9_beginBlock_76 (q := 77) zX_a29 hin_76 rfl ?_
    refine zr_aload_n C dX9_beginBlock_77 (q := 78) rfl 0 rfl rfl ?_
    refine zr_get C dX9_beginBlock_78 (q := 81) zX_gX9_40_18 rfl ?_
    refine zr_iload_n C dX9_beginBlock_81 (q := 82) rfl 1 rfl rfl ?_
    obtain ⟨hin_82, h⟩ := zx_ck_so h
    refine zr_iald C dX9_beginBlock_82 (q := 83) zX_a30 hin_82 rfl ?_
    refine zr_iadd C dX9_beginBlock_83 (q := 84) rfl ?_
    refine zr_icmp_ge (tgt := 109) (q := 87) C dX9_beginBlock_84 h (by decide) rfl (fun h => ?_) (fun h => ?_)
    · skip
      exact zr_sub [] rfl (h109 s h)
    · skip
      refine zr_aload_n C dX9_beginBlock_87 (q := 88) rfl 0 rfl rfl ?_
      refine zr_get C dX9_beginBlock_88 (q := 91) zX_gX9_46_18 rfl ?_
      refine zr_iload_n C dX9_beginBlock_91 (q := 92) rfl 2 rfl rfl ?_
      refine zr_aload_n C dX9_beginBlock_92 (q := 93) rfl 0 rfl rfl ?_
      refine zr_get C dX9_beginBlock_93 (q := 96) zX_gX9_18_18 rfl ?_
      refine zr_iload C dX9_beginBlock_96 (q := 98) 3 rfl rfl ?_
      obtain ⟨hin_98, h⟩ := zx_ck_so h
      refine zr_iald C dX9_beginBlock_98 (q := 99) zX_a21 hin_98 rfl ?_
      refine zr_iadd C dX9_beginBlock_99 (q := 100) rfl ?_
      refine zr_iload C dX9_beginBlock_100 (q := 102) 3 rfl rfl ?_
      obtain ⟨hin_102, h⟩ := zx_ck_so h
      refine zr_iast C dX9_beginBlock_102 (q := 103) zX_a32 hin_102 rfl ?_
      refine zr_ls h (fun s10 h => ?_)
      refine zr_iinc C dX9_beginBlock_103 (q := 106) h (by decide) 3 rfl (by decide) (lw := fun v5_11 => [(5, .int v5_11), (0, .ref (zz_d Z 18)), (2, .int v2), (3, .int v3)]) (fun _ => rfl) rfl (fun v5_11 h => ?_)
      refine zr_goto (q := 69) C dX9_beginBlock_106 (by decide) ?_
      exact zr_sub [1, 2, 3, 0] rfl (ih v5_11 s10 h)
set_option maxRecDepth 100000 in
set_option maxHeartbeats 4000000 in
theorem zX_Values_beginBlock_w {Z : zx_Z} (C : zx_ok zX_sd Z cX9_beginBlock 6 RX9 0 0) {r : zx_S} (p2 : Int32) (s : zx_S) (hr : zx_rV zX_sd Z cX9_beginBlock 6 r) (h : zX_Values_beginBlock p2 s = some r) : zW zX_sd Z 6 0 [(0, .ref (zz_d Z 18)), (1, .ref (zz_d Z 11)), (2, .int p2)] [] s := by
  unfold zX_Values_beginBlock at h
  refine zr_iload_n C dX9_beginBlock_0 (q := 1) rfl 2 rfl rfl ?_
  refine zr_bipush C dX9_beginBlock_1 (q := 3) (v := (10 : Int32)) (by decide) rfl ?_
  refine zr_imul C dX9_beginBlock_3 (q := 4) rfl ?_
  refine zr_top h (fun v3_1 h => ?_)
  refine zr_istore_n C dX9_beginBlock_4 (q := 5) rfl (by decide) (lv' := [(3, .int v3_1), (0, .ref (zz_d Z 18)), (1, .ref (zz_d Z 11)), (2, .int p2)]) rfl rfl ?_
  refine zr_aload_n C dX9_beginBlock_5 (q := 6) rfl 2 rfl rfl ?_
  refine zr_get C dX9_beginBlock_6 (q := 9) zX_gX9_146_11 rfl ?_
  refine zr_iload_n C dX9_beginBlock_9 (q := 10) rfl 3 rfl rfl ?_
  obtain ⟨hin_10, h⟩ := zx_ck_so h
  refine zr_iald C dX9_beginBlock_10 (q := 11) zX_a16 hin_10 rfl ?_
  refine zr_top h (fun v4_2 h => ?_)
  refine zr_istore C dX9_beginBlock_11 (q := 13) (by decide) (lv' := [(4, .int v4_2), (3, .int v3_1), (0, .ref (zz_d Z 18)), (1, .ref (zz_d Z 11)), (2, .int p2)]) rfl rfl ?_
  refine zr_iconst C dX9_beginBlock_13 (q := 14) (v := (0 : Int32)) (by decide) rfl ?_
  refine zr_istore C dX9_beginBlock_14 (q := 16) (by decide) (lv' := [(5, .int (0 : Int32)), (4, .int v4_2), (3, .int v3_1), (0, .ref (zz_d Z 18)), (1, .ref (zz_d Z 11)), (2, .int p2)]) rfl rfl ?_
  refine zr_sub [3, 5, 2, 1, 0] rfl (zX_Values_beginBlock_L16_w C p2 v3_1 v4_2 hr (fun s8 h => ?_) 10000 (0 : Int32) s h)
  · skip
    refine zr_aload_n C dX9_beginBlock_61 (q := 62) rfl 0 rfl rfl ?_
    refine zr_get C dX9_beginBlock_62 (q := 65) zX_gX9_37_18 rfl ?_
    refine zr_iload_n C dX9_beginBlock_65 (q := 66) rfl 1 rfl rfl ?_
    obtain ⟨hin_66, h⟩ := zx_ck_so h
    refine zr_iald C dX9_beginBlock_66 (q := 67) zX_a29 hin_66 rfl ?_
    refine zr_top h (fun v5_9 h => ?_)
    refine zr_istore C dX9_beginBlock_67 (q := 69) (by decide) (lv' := [(5, .int v5_9), (0, .ref (zz_d Z 18)), (2, .int p2), (3, .int v3_1)]) rfl rfl ?_
    refine zr_sub [1, 2, 3, 0] rfl (zX_Values_beginBlock_L69_w C p2 v3_1 hr (fun s12 h => ?_) 10000 v5_9 s8 h)
    · skip
      exact zr_retV dX9_beginBlock_109 h hr
theorem zX_Values_beginBlock_met {l : Launch} {D : va_G} {cz : ClassId × ClassId} {ad : Nat → Nat} (hS : zx_So zX_sd) (hi : zx_I zX_sd ad) {p2 : Int32} {s : zx_S} {s1 : zx_S} (h : zX_Values_beginBlock p2 s = some s1) : zx_MV zX_sd l D cz ad yX9_beginBlock cX9_beginBlock 6 0 0 [.ref (ad 18), .ref (ad 11), .int p2] s s1 := zx_metV hS hi (by decide +kernel) rfl (Nat.le_of_ble_eq_true rfl) (fun Z e1 e2 e3 e4 C hr => by subst e1 e2 e3 e4; exact zX_Values_beginBlock_w C p2 s hr h)
set_option maxRecDepth 100000 in
set_option maxHeartbeats 4000000 in
theorem zX_Program_endVariable_w {Z : zx_Z} (C : zx_ok zX_sd Z cX5_endVariable 2 RX5 2 42) {r : Int32} (p1 : Int32) (s : zx_S) (hr : zx_rI zX_sd Z cX5_endVariable 2 .int r s) (h : zX_Program_endVariable p1 s = some r) : zW zX_sd Z 2 0 [(0, .ref (zz_d Z 1)), (1, .int p1)] [] s := by
  unfold zX_Program_endVariable at h
  refine zr_aload_n C dX5_endVariable_0 (q := 1) rfl 0 rfl rfl ?_
  refine zr_iload_n C dX5_endVariable_1 (q := 2) rfl 1 rfl rfl ?_
  obtain ⟨r1, hc_2, h⟩ := zx_b1_so h
  refine zr_cvI (q := 5) C (As := [.int p1]) (k := 1) (rest := []) dX5_endVariable_2 (zX_Program_endCounts_met C.2.2.2.2.1 C.2.2.2.1 hc_2) zX_vX5_73 zX_o1 ⟨by decide, by decide⟩ rfl (Nat.le_of_ble_eq_true rfl) rfl rfl ?_
  refine zr_if_eq (tgt := 17) (q := 8) C dX5_endVariable_5 h (by decide) rfl (fun h => ?_) (fun h => ?_)
  · skip
    refine zr_iconst C dX5_endVariable_17 (q := 18) (v := (0 : Int32)) (by decide) rfl ?_
    exact zr_retR dX5_endVariable_18 h hr
  · skip
    refine zr_aload_n C dX5_endVariable_8 (q := 9) rfl 0 rfl rfl ?_
    refine zr_get C dX5_endVariable_9 (q := 12) zX_gX5_30_1 rfl ?_
    refine zr_iload_n C dX5_endVariable_12 (q := 13) rfl 1 rfl rfl ?_
    obtain ⟨hin_13, h⟩ := zx_ck_so h
    refine zr_iald C dX5_endVariable_13 (q := 14) zX_a8 hin_13 rfl ?_
    refine zr_goto (q := 18) C dX5_endVariable_14 (by decide) ?_
    exact zr_retR dX5_endVariable_18 h hr
theorem zX_Program_endVariable_met {l : Launch} {D : va_G} {cz : ClassId × ClassId} {ad : Nat → Nat} (hS : zx_So zX_sd) (hi : zx_I zX_sd ad) {p1 : Int32} {s : zx_S} {v : Int32} (h : zX_Program_endVariable p1 s = some v) : zx_MI zX_sd l D cz ad yX5_endVariable cX5_endVariable 2 .int 2 42 [.ref (ad 1), .int p1] s v s := zx_metI hS hi (by decide +kernel) rfl (Nat.le_of_ble_eq_true rfl) (fun Z e1 e2 e3 e4 C hr => by subst e1 e2 e3 e4; exact zX_Program_endVariable_w C p1 s hr h)
set_option maxRecDepth 100000 in
set_option maxHeartbeats 4000000 in
theorem zX_Values_followBlock_J186_w {Z : zx_Z} (C : zx_ok zX_sd Z cX9_followBlock 7 RX9 3 63) {r : zx_S} (v2 v3 v4 v6 : Int32) (s : zx_S) {k13 : Int32 → zx_S → Option zx_S} (hr : zx_rV zX_sd Z cX9_followBlock 7 r) (h13 : ∀ (a0 : Int32) (s1 : zx_S), k13 a0 s1 = some r → zW zX_sd Z 7 13 [(0, .ref (zz_d Z 18)), (1, .ref (zz_d Z 1)), (2, .int v2), (3, .int v3), (4, .int a0)] [] s1) (h : zX_Values_followBlock_J186 k13 v2 v3 v4 v6 s = some r) : zW zX_sd Z 7 186 [(0, .ref (zz_d Z 18)), (1, .ref (zz_d Z 1)), (2, .int v2), (3, .int v3), (4, .int v4), (6, .int v6)] [] s := by
  unfold zX_Values_followBlock_J186 at h
  refine zr_aload_n C dX9_followBlock_186 (q := 187) rfl 0 rfl rfl ?_
  refine zr_get C dX9_followBlock_187 (q := 190) zX_gX9_46_18 rfl ?_
  refine zr_iload_n C dX9_followBlock_190 (q := 191) rfl 3 rfl rfl ?_
  refine zr_aload_n C dX9_followBlock_191 (q := 192) rfl 1 rfl rfl ?_
  refine zr_get C dX9_followBlock_192 (q := 195) zX_gX9_116_1 rfl ?_
  refine zr_iload C dX9_followBlock_195 (q := 197) 4 rfl rfl ?_
  obtain ⟨hin_197, h⟩ := zx_ck_so h
  refine zr_iald C dX9_followBlock_197 (q := 198) zX_a4 hin_197 rfl ?_
  refine zr_iadd C dX9_followBlock_198 (q := 199) rfl ?_
  refine zr_iload C dX9_followBlock_199 (q := 201) 5 rfl rfl ?_
  obtain ⟨hin_201, h⟩ := zx_ck_so h
  refine zr_iast C dX9_followBlock_201 (q := 202) zX_a32 hin_201 rfl ?_
  refine zr_ls h (fun s11 h => ?_)
  refine zr_iinc C dX9_followBlock_202 (q := 205) h (by decide) 4 rfl (by decide) (lw := fun v4_12 => [(4, .int v4_12), (0, .ref (zz_d Z 18)), (1, .ref (zz_d Z 1)), (2, .int v2), (3, .int v3), (6, .int v6)]) (fun _ => rfl) rfl (fun v4_12 h => ?_)
  refine zr_goto (q := 13) C dX9_followBlock_205 (by decide) ?_
  exact zr_sub [1, 2, 3, 4, 0] rfl (h13 v4_12 s11 h)
set_option maxRecDepth 100000 in
set_option maxHeartbeats 4000000 in
theorem zX_Values_followBlock_L13_w {Z : zx_Z} (C : zx_ok zX_sd Z cX9_followBlock 7 RX9 3 63) {r : zx_S} (v2 v3 : Int32) {k208 : zx_S → Option zx_S} (hr : zx_rV zX_sd Z cX9_followBlock 7 r) (h208 : ∀ (s1 : zx_S), k208 s1 = some r → zW zX_sd Z 7 208 [(0, .ref (zz_d Z 18)), (1, .ref (zz_d Z 1)), (2, .int v2), (3, .int v3)] [] s1) : ∀ (n : Nat) (v4 : Int32) (s : zx_S), zX_Values_followBlock_L13 v2 v3 k208 n v4 s = some r → zW zX_sd Z 7 13 [(0, .ref (zz_d Z 18)), (1, .ref (zz_d Z 1)), (2, .int v2), (3, .int v3), (4, .int v4)] [] s := by
  intro n
  induction n with
  | zero => intro v4 s h; unfold zX_Values_followBlock_L13 at h; cases h
  | succ n ih =>
    intro v4 s h
    unfold zX_Values_followBlock_L13 at h
    refine zr_iload C dX9_followBlock_13 (q := 15) 4 rfl rfl ?_
    refine zr_aload_n C dX9_followBlock_15 (q := 16) rfl 1 rfl rfl ?_
    refine zr_get C dX9_followBlock_16 (q := 19) zX_gX9_111_1 rfl ?_
    refine zr_iload_n C dX9_followBlock_19 (q := 20) rfl 2 rfl rfl ?_
    refine zr_iconst C dX9_followBlock_20 (q := 21) (v := (1 : Int32)) (by decide) rfl ?_
    refine zr_iadd C dX9_followBlock_21 (q := 22) rfl ?_
    obtain ⟨hin_22, h⟩ := zx_ck_so h
    refine zr_iald C dX9_followBlock_22 (q := 23) zX_a2 hin_22 rfl ?_
    refine zr_icmp_ge (tgt := 208) (q := 26) C dX9_followBlock_23 h (by decide) rfl (fun h => ?_) (fun h => ?_)
    · skip
      exact zr_sub [0, 1, 2, 3] rfl (h208 s h)
    · skip
      refine zr_aload_n C dX9_followBlock_26 (q := 27) rfl 1 rfl rfl ?_
      refine zr_get C dX9_followBlock_27 (q := 30) zX_gX9_142_1 rfl ?_
      refine zr_iload C dX9_followBlock_30 (q := 32) 4 rfl rfl ?_
      obtain ⟨hin_32, h⟩ := zx_ck_so h
      refine zr_iald C dX9_followBlock_32 (q := 33) zX_a3 hin_32 rfl ?_
      refine zr_top h (fun v5_3 h => ?_)
      refine zr_istore C dX9_followBlock_33 (q := 35) (by decide) (lv' := [(5, .int v5_3), (0, .ref (zz_d Z 18)), (1, .ref (zz_d Z 1)), (2, .int v2), (3, .int v3), (4, .int v4)]) rfl rfl ?_
      refine zr_iload C dX9_followBlock_35 (q := 37) 0 rfl rfl ?_
      refine zr_bipush C dX9_followBlock_37 (q := 39) (v := (14 : Int32)) (by decide) rfl ?_
      refine zr_icmp_ne (tgt := 69) (q := 42) C dX9_followBlock_39 h (by decide) rfl (fun h => ?_) (fun h => ?_)
      · skip
        refine zr_iload C dX9_followBlock_69 (q := 71) 0 rfl rfl ?_
        refine zr_iconst C dX9_followBlock_71 (q := 72) (v := (2 : Int32)) (by decide) rfl ?_
        refine zr_icmp_ne (tgt := 106) (q := 75) C dX9_followBlock_72 h (by decide) rfl (fun h => ?_) (fun h => ?_)
        · skip
          refine zr_aload_n C dX9_followBlock_106 (q := 107) rfl 1 rfl rfl ?_
          refine zr_get C dX9_followBlock_107 (q := 110) zX_gX9_34_18 rfl ?_
          refine zr_iload C dX9_followBlock_110 (q := 112) 5 rfl rfl ?_
          obtain ⟨hin_112, h⟩ := zx_ck_so h
          refine zr_iald C dX9_followBlock_112 (q := 113) zX_a28 hin_112 rfl ?_
          refine zr_top h (fun v6_10 h => ?_)
          refine zr_istore C dX9_followBlock_113 (q := 115) (by decide) (lv' := [(6, .int v6_10), (5, .int v5_3), (0, .ref (zz_d Z 18)), (1, .ref (zz_d Z 1)), (2, .int v2), (3, .int v3), (4, .int v4)]) rfl rfl ?_
          refine zr_iload C dX9_followBlock_115 (q := 117) 1 rfl rfl ?_
          refine zr_if_eq (tgt := 186) (q := 120) C dX9_followBlock_117 h (by decide) rfl (fun h => ?_) (fun h => ?_)
          · skip
            exact zr_sub [2, 3, 4, 5, 6, 0] rfl (zX_Values_followBlock_J186_w C v2 v3 v4 v6_10 s hr (ih) h)
          · skip
            refine zr_iload C dX9_followBlock_120 (q := 122) 1 rfl rfl ?_
            refine zr_iconst C dX9_followBlock_122 (q := 123) (v := (1 : Int32)) (by decide) rfl ?_
            refine zr_icmp_eq (tgt := 186) (q := 126) C dX9_followBlock_123 h (by decide) rfl (fun h => ?_) (fun h => ?_)
            · skip
              exact zr_sub [2, 3, 4, 5, 6, 0] rfl (zX_Values_followBlock_J186_w C v2 v3 v4 v6_10 s hr (ih) h)
            · skip
              refine zr_aload_n C dX9_followBlock_126 (q := 127) rfl 2 rfl rfl ?_
              refine zr_get C dX9_followBlock_127 (q := 130) zX_gX9_30_18 rfl ?_
              refine zr_get C dX9_followBlock_130 (q := 133) zX_gX9_152_24 rfl ?_
              refine zr_aload_n C dX9_followBlock_133 (q := 134) rfl 2 rfl rfl ?_
              refine zr_get C dX9_followBlock_134 (q := 137) zX_gX9_24_18 rfl ?_
              refine zr_iload C dX9_followBlock_137 (q := 139) 0 rfl rfl ?_
              obtain ⟨hin_139, h⟩ := zx_ck_so h
              refine zr_iald C dX9_followBlock_139 (q := 140) zX_a23 hin_139 rfl ?_
              refine zr_aload_n C dX9_followBlock_140 (q := 141) rfl 2 rfl rfl ?_
              refine zr_get C dX9_followBlock_141 (q := 144) zX_gX9_46_18 rfl ?_
              refine zr_iload_n C dX9_followBlock_144 (q := 145) rfl 5 rfl rfl ?_
              refine zr_aload_n C dX9_followBlock_145 (q := 146) rfl 3 rfl rfl ?_
              refine zr_get C dX9_followBlock_146 (q := 149) zX_gX9_143_1 rfl ?_
              refine zr_iload C dX9_followBlock_149 (q := 151) 6 rfl rfl ?_
              obtain ⟨hin_151, h⟩ := zx_ck_so h
              refine zr_iald C dX9_followBlock_151 (q := 152) zX_a5 hin_151 rfl ?_
              refine zr_iadd C dX9_followBlock_152 (q := 153) rfl ?_
              obtain ⟨hin_153, h⟩ := zx_ck_so h
              refine zr_iald C dX9_followBlock_153 (q := 154) zX_a32 hin_153 rfl ?_
              refine zr_top h (fun x13 h => ?_)
              obtain ⟨hin_154, h⟩ := zx_ck_so h
              refine zr_iast C dX9_followBlock_154 (q := 155) zX_a25 hin_154 rfl ?_
              refine zr_ls h (fun s14 h => ?_)
              refine zr_aload_n C dX9_followBlock_155 (q := 156) rfl 2 rfl rfl ?_
              refine zr_get C dX9_followBlock_156 (q := 159) zX_gX9_30_18 rfl ?_
              refine zr_get C dX9_followBlock_159 (q := 162) zX_gX9_152_24 rfl ?_
              refine zr_aload_n C dX9_followBlock_162 (q := 163) rfl 2 rfl rfl ?_
              refine zr_get C dX9_followBlock_163 (q := 166) zX_gX9_24_18 rfl ?_
              refine zr_iload C dX9_followBlock_166 (q := 168) 0 rfl rfl ?_
              obtain ⟨hin_168, h⟩ := zx_ck_so h
              refine zr_iald C dX9_followBlock_168 (q := 169) zX_a23 hin_168 rfl ?_
              refine zr_iconst C dX9_followBlock_169 (q := 170) (v := (1 : Int32)) (by decide) rfl ?_
              refine zr_iadd C dX9_followBlock_170 (q := 171) rfl ?_
              refine zr_aload_n C dX9_followBlock_171 (q := 172) rfl 2 rfl rfl ?_
              refine zr_get C dX9_followBlock_172 (q := 175) zX_gX9_46_18 rfl ?_
              refine zr_iload_n C dX9_followBlock_175 (q := 176) rfl 5 rfl rfl ?_
              refine zr_aload_n C dX9_followBlock_176 (q := 177) rfl 3 rfl rfl ?_
              refine zr_get C dX9_followBlock_177 (q := 180) zX_gX9_155_1 rfl ?_
              refine zr_iload C dX9_followBlock_180 (q := 182) 6 rfl rfl ?_
              obtain ⟨hin_182, h⟩ := zx_ck_so h
              refine zr_iald C dX9_followBlock_182 (q := 183) zX_a6 hin_182 rfl ?_
              refine zr_iadd C dX9_followBlock_183 (q := 184) rfl ?_
              obtain ⟨hin_184, h⟩ := zx_ck_so h
              refine zr_iald C dX9_followBlock_184 (q := 185) zX_a32 hin_184 rfl ?_
              refine zr_top h (fun x15 h => ?_)
              obtain ⟨hin_185, h⟩ := zx_ck_so h
              refine zr_iast C dX9_followBlock_185 (q := 186) zX_a25 hin_185 rfl ?_
              refine zr_ls h (fun s16 h => ?_)
              exact zr_sub [2, 3, 4, 5, 6, 0] rfl (zX_Values_followBlock_J186_w C v2 v3 v4 v6_10 s16 hr (ih) h)
        · skip
          refine zr_aload_n C dX9_followBlock_75 (q := 76) rfl 1 rfl rfl ?_
          refine zr_get C dX9_followBlock_76 (q := 79) zX_gX9_46_18 rfl ?_
          refine zr_iload_n C dX9_followBlock_79 (q := 80) rfl 4 rfl rfl ?_
          refine zr_aload_n C dX9_followBlock_80 (q := 81) rfl 2 rfl rfl ?_
          refine zr_get C dX9_followBlock_81 (q := 84) zX_gX9_116_1 rfl ?_
          refine zr_iload C dX9_followBlock_84 (q := 86) 5 rfl rfl ?_
          obtain ⟨hin_86, h⟩ := zx_ck_so h
          refine zr_iald C dX9_followBlock_86 (q := 87) zX_a4 hin_86 rfl ?_
          refine zr_iadd C dX9_followBlock_87 (q := 88) rfl ?_
          refine zr_aload_n C dX9_followBlock_88 (q := 89) rfl 1 rfl rfl ?_
          refine zr_get C dX9_followBlock_89 (q := 92) zX_gX9_46_18 rfl ?_
          refine zr_iload_n C dX9_followBlock_92 (q := 93) rfl 4 rfl rfl ?_
          refine zr_aload_n C dX9_followBlock_93 (q := 94) rfl 2 rfl rfl ?_
          refine zr_get C dX9_followBlock_94 (q := 97) zX_gX9_143_1 rfl ?_
          refine zr_iload C dX9_followBlock_97 (q := 99) 5 rfl rfl ?_
          obtain ⟨hin_99, h⟩ := zx_ck_so h
          refine zr_iald C dX9_followBlock_99 (q := 100) zX_a5 hin_99 rfl ?_
          refine zr_iadd C dX9_followBlock_100 (q := 101) rfl ?_
          obtain ⟨hin_101, h⟩ := zx_ck_so h
          refine zr_iald C dX9_followBlock_101 (q := 102) zX_a32 hin_101 rfl ?_
          refine zr_top h (fun x7 h => ?_)
          obtain ⟨hin_102, h⟩ := zx_ck_so h
          refine zr_iast C dX9_followBlock_102 (q := 103) zX_a32 hin_102 rfl ?_
          refine zr_ls h (fun s8 h => ?_)
          refine zr_goto (q := 202) C dX9_followBlock_103 (by decide) ?_
          refine zr_iinc C dX9_followBlock_202 (q := 205) h (by decide) 5 rfl (by decide) (lw := fun v4_9 => [(4, .int v4_9), (5, .int v5_3), (0, .ref (zz_d Z 18)), (1, .ref (zz_d Z 1)), (2, .int v2), (3, .int v3)]) (fun _ => rfl) rfl (fun v4_9 h => ?_)
          refine zr_goto (q := 13) C dX9_followBlock_205 (by decide) ?_
          exact zr_sub [2, 3, 4, 5, 0] rfl (ih v4_9 s8 h)
      · skip
        refine zr_aload_n C dX9_followBlock_42 (q := 43) rfl 1 rfl rfl ?_
        refine zr_get C dX9_followBlock_43 (q := 46) zX_gX9_30_18 rfl ?_
        refine zr_get C dX9_followBlock_46 (q := 49) zX_gX9_149_24 rfl ?_
        refine zr_iload C dX9_followBlock_49 (q := 51) 5 rfl rfl ?_
        refine zr_aload_n C dX9_followBlock_51 (q := 52) rfl 1 rfl rfl ?_
        refine zr_get C dX9_followBlock_52 (q := 55) zX_gX9_46_18 rfl ?_
        refine zr_iload_n C dX9_followBlock_55 (q := 56) rfl 4 rfl rfl ?_
        refine zr_aload_n C dX9_followBlock_56 (q := 57) rfl 2 rfl rfl ?_
        refine zr_get C dX9_followBlock_57 (q := 60) zX_gX9_143_1 rfl ?_
        refine zr_iload C dX9_followBlock_60 (q := 62) 5 rfl rfl ?_
        obtain ⟨hin_62, h⟩ := zx_ck_so h
        refine zr_iald C dX9_followBlock_62 (q := 63) zX_a5 hin_62 rfl ?_
        refine zr_iadd C dX9_followBlock_63 (q := 64) rfl ?_
        obtain ⟨hin_64, h⟩ := zx_ck_so h
        refine zr_iald C dX9_followBlock_64 (q := 65) zX_a32 hin_64 rfl ?_
        refine zr_top h (fun x4 h => ?_)
        obtain ⟨hin_65, h⟩ := zx_ck_so h
        refine zr_iast C dX9_followBlock_65 (q := 66) zX_a26 hin_65 rfl ?_
        refine zr_ls h (fun s5 h => ?_)
        refine zr_goto (q := 202) C dX9_followBlock_66 (by decide) ?_
        refine zr_iinc C dX9_followBlock_202 (q := 205) h (by decide) 5 rfl (by decide) (lw := fun v4_6 => [(4, .int v4_6), (5, .int v5_3), (0, .ref (zz_d Z 18)), (1, .ref (zz_d Z 1)), (2, .int v2), (3, .int v3)]) (fun _ => rfl) rfl (fun v4_6 h => ?_)
        refine zr_goto (q := 13) C dX9_followBlock_205 (by decide) ?_
        exact zr_sub [2, 3, 4, 5, 0] rfl (ih v4_6 s5 h)
set_option maxRecDepth 100000 in
set_option maxHeartbeats 4000000 in
theorem zX_Values_followBlock_J222_w {Z : zx_Z} (C : zx_ok zX_sd Z cX9_followBlock 7 RX9 3 63) {r : zx_S} (v2 v3 t0 : Int32) (s : zx_S) (hr : zx_rV zX_sd Z cX9_followBlock 7 r) (h : zX_Values_followBlock_J222 v2 v3 t0 s = some r) : zW zX_sd Z 7 222 [(0, .ref (zz_d Z 18)), (1, .ref (zz_d Z 1)), (2, .int v2), (3, .int v3)] [.int t0] s := by
  unfold zX_Values_followBlock_J222 at h
  refine zr_istore C dX9_followBlock_222 (q := 224) (by decide) (lv' := [(4, .int t0), (0, .ref (zz_d Z 18)), (1, .ref (zz_d Z 1)), (2, .int v2), (3, .int v3)]) rfl rfl ?_
  refine zr_aload_n C dX9_followBlock_224 (q := 225) rfl 1 rfl rfl ?_
  refine zr_get C dX9_followBlock_225 (q := 228) zX_gX9_30_18 rfl ?_
  refine zr_get C dX9_followBlock_228 (q := 231) zX_gX9_161_24 rfl ?_
  refine zr_iload_n C dX9_followBlock_231 (q := 232) rfl 3 rfl rfl ?_
  refine zr_iload C dX9_followBlock_232 (q := 234) 0 rfl rfl ?_
  refine zr_if_eq (tgt := 241) (q := 237) C dX9_followBlock_234 h (by decide) rfl (fun h => ?_) (fun h => ?_)
  · skip
    refine zr_aload_n C dX9_followBlock_241 (q := 242) rfl 1 rfl rfl ?_
    refine zr_get C dX9_followBlock_242 (q := 245) zX_gX9_46_18 rfl ?_
    refine zr_iload_n C dX9_followBlock_245 (q := 246) rfl 4 rfl rfl ?_
    refine zr_aload_n C dX9_followBlock_246 (q := 247) rfl 2 rfl rfl ?_
    refine zr_iload_n C dX9_followBlock_247 (q := 248) rfl 3 rfl rfl ?_
    obtain ⟨r20, hc_248, h⟩ := zx_b1_so h
    refine zr_cvI (q := 251) C (As := [.int v2]) (k := 1) (rest := [.int v3, .ref (zz_d Z 32), .int v2, .ref (zz_d Z 27)]) dX9_followBlock_248 (zX_Program_endVariable_met C.2.2.2.2.1 C.2.2.2.1 hc_248) zX_vX9_164 zX_o1 ⟨by decide, by decide⟩ rfl (Nat.le_of_ble_eq_true rfl) rfl rfl ?_
    refine zr_iadd C dX9_followBlock_251 (q := 252) rfl ?_
    obtain ⟨hin_252, h⟩ := zx_ck_so h
    refine zr_iald C dX9_followBlock_252 (q := 253) zX_a32 hin_252 rfl ?_
    refine zr_top h (fun x21 h => ?_)
    obtain ⟨hin_253, h⟩ := zx_ck_so h
    refine zr_iast C dX9_followBlock_253 (q := 254) zX_a27 hin_253 rfl ?_
    refine zr_ls h (fun s22 h => ?_)
    exact zr_retV dX9_followBlock_254 h hr
  · skip
    refine zr_iconst C dX9_followBlock_237 (q := 238) (v := (-1 : Int32)) (by decide) rfl ?_
    refine zr_goto (q := 253) C dX9_followBlock_238 (by decide) ?_
    obtain ⟨hin_253, h⟩ := zx_ck_so h
    refine zr_iast C dX9_followBlock_253 (q := 254) zX_a27 hin_253 rfl ?_
    refine zr_ls h (fun s19 h => ?_)
    exact zr_retV dX9_followBlock_254 h hr
set_option maxRecDepth 100000 in
set_option maxHeartbeats 4000000 in
theorem zX_Values_followBlock_w {Z : zx_Z} (C : zx_ok zX_sd Z cX9_followBlock 7 RX9 3 63) {r : zx_S} (p2 : Int32) (s : zx_S) (hr : zx_rV zX_sd Z cX9_followBlock 7 r) (h : zX_Values_followBlock p2 s = some r) : zW zX_sd Z 7 0 [(0, .ref (zz_d Z 18)), (1, .ref (zz_d Z 1)), (2, .int p2)] [] s := by
  unfold zX_Values_followBlock at h
  refine zr_iload_n C dX9_followBlock_0 (q := 1) rfl 2 rfl rfl ?_
  refine zr_bipush C dX9_followBlock_1 (q := 3) (v := (10 : Int32)) (by decide) rfl ?_
  refine zr_imul C dX9_followBlock_3 (q := 4) rfl ?_
  refine zr_top h (fun v3_1 h => ?_)
  refine zr_istore_n C dX9_followBlock_4 (q := 5) rfl (by decide) (lv' := [(3, .int v3_1), (0, .ref (zz_d Z 18)), (1, .ref (zz_d Z 1)), (2, .int p2)]) rfl rfl ?_
  refine zr_aload_n C dX9_followBlock_5 (q := 6) rfl 2 rfl rfl ?_
  refine zr_get C dX9_followBlock_6 (q := 9) zX_gX9_111_1 rfl ?_
  refine zr_iload_n C dX9_followBlock_9 (q := 10) rfl 3 rfl rfl ?_
  obtain ⟨hin_10, h⟩ := zx_ck_so h
  refine zr_iald C dX9_followBlock_10 (q := 11) zX_a2 hin_10 rfl ?_
  refine zr_top h (fun v4_2 h => ?_)
  refine zr_istore C dX9_followBlock_11 (q := 13) (by decide) (lv' := [(4, .int v4_2), (3, .int v3_1), (0, .ref (zz_d Z 18)), (1, .ref (zz_d Z 1)), (2, .int p2)]) rfl rfl ?_
  refine zr_sub [2, 3, 4, 1, 0] rfl (zX_Values_followBlock_L13_w C p2 v3_1 hr (fun s17 h => ?_) 10000 v4_2 s h)
  · skip
    refine zr_aload_n C dX9_followBlock_208 (q := 209) rfl 1 rfl rfl ?_
    refine zr_iload_n C dX9_followBlock_209 (q := 210) rfl 2 rfl rfl ?_
    obtain ⟨r18, hc_210, h⟩ := zx_b1_so h
    refine zr_cvI (q := 213) C (As := [.int p2]) (k := 1) (rest := []) dX9_followBlock_210 (zX_Program_howCounts_met C.2.2.2.2.1 C.2.2.2.1 hc_210) zX_vX9_158 zX_o1 ⟨by decide, by decide⟩ rfl (Nat.le_of_ble_eq_true rfl) rfl rfl ?_
    refine zr_iconst C dX9_followBlock_213 (q := 214) (v := (1 : Int32)) (by decide) rfl ?_
    refine zr_icmp_ne (tgt := 221) (q := 217) C dX9_followBlock_214 h (by decide) rfl (fun h => ?_) (fun h => ?_)
    · skip
      refine zr_iconst C dX9_followBlock_221 (q := 222) (v := (0 : Int32)) (by decide) rfl ?_
      exact zr_sub [0, 1, 2, 3] rfl (zX_Values_followBlock_J222_w C p2 v3_1 (0 : Int32) s17 hr h)
    · skip
      refine zr_iconst C dX9_followBlock_217 (q := 218) (v := (1 : Int32)) (by decide) rfl ?_
      refine zr_goto (q := 222) C dX9_followBlock_218 (by decide) ?_
      exact zr_sub [0, 1, 2, 3] rfl (zX_Values_followBlock_J222_w C p2 v3_1 (1 : Int32) s17 hr h)
theorem zX_Values_followBlock_met {l : Launch} {D : va_G} {cz : ClassId × ClassId} {ad : Nat → Nat} (hS : zx_So zX_sd) (hi : zx_I zX_sd ad) {p2 : Int32} {s : zx_S} {s1 : zx_S} (h : zX_Values_followBlock p2 s = some s1) : zx_MV zX_sd l D cz ad yX9_followBlock cX9_followBlock 7 3 63 [.ref (ad 18), .ref (ad 1), .int p2] s s1 := zx_metV hS hi (by decide +kernel) rfl (Nat.le_of_ble_eq_true rfl) (fun Z e1 e2 e3 e4 C hr => by subst e1 e2 e3 e4; exact zX_Values_followBlock_w C p2 s hr h)
set_option maxRecDepth 100000 in
set_option maxHeartbeats 4000000 in
theorem zX_Values_fillChoice_L10_w {Z : zx_Z} (C : zx_ok zX_sd Z cX9_fillChoice 5 RX9 1 21) {r : zx_S} (v1 v2 : Int32) {k61 : Int32 → zx_S → Option zx_S} (hr : zx_rV zX_sd Z cX9_fillChoice 5 r) (h61 : ∀ (a0 : Int32) (s1 : zx_S), k61 a0 s1 = some r → zW zX_sd Z 5 61 [(0, .ref (zz_d Z 18)), (1, .int v1), (3, .int a0)] [] s1) : ∀ (n : Nat) (v3 : Int32) (v4 : Int32) (s : zx_S), zX_Values_fillChoice_L10 v1 v2 k61 n v3 v4 s = some r → zW zX_sd Z 5 10 [(0, .ref (zz_d Z 18)), (1, .int v1), (2, .int v2), (3, .int v3), (4, .int v4)] [] s := by
  intro n
  induction n with
  | zero => intro v3 v4 s h; unfold zX_Values_fillChoice_L10 at h; cases h
  | succ n ih =>
    intro v3 v4 s h
    unfold zX_Values_fillChoice_L10 at h
    refine zr_iload C dX9_fillChoice_10 (q := 12) 4 rfl rfl ?_
    refine zr_bipush C dX9_fillChoice_12 (q := 14) (v := (16 : Int32)) (by decide) rfl ?_
    refine zr_icmp_ge (tgt := 61) (q := 17) C dX9_fillChoice_14 h (by decide) rfl (fun h => ?_) (fun h => ?_)
    · skip
      exact zr_sub [0, 1, 3] rfl (h61 v3 s h)
    · skip
      refine zr_iload_n C dX9_fillChoice_17 (q := 18) rfl 2 rfl rfl ?_
      refine zr_iload C dX9_fillChoice_18 (q := 20) 4 rfl rfl ?_
      obtain ⟨r2, hc_20, h⟩ := zx_b1_so h
      refine zr_csI (q := 23) C (As := [.int v2, .int v4]) (rest := []) dX9_fillChoice_20 (zX_Graph_isIn_met C.2.2.2.2.1 C.2.2.2.1 hc_20) zX_sX9_138 ⟨by decide, by decide⟩ rfl (Nat.le_of_ble_eq_true rfl) rfl rfl ?_
      refine zr_if_eq (tgt := 55) (q := 26) C dX9_fillChoice_23 h (by decide) rfl (fun h => ?_) (fun h => ?_)
      · skip
        refine zr_iinc C dX9_fillChoice_55 (q := 58) h (by decide) 4 rfl (by decide) (lw := fun v4_7 => [(4, .int v4_7), (0, .ref (zz_d Z 18)), (1, .int v1), (2, .int v2), (3, .int v3)]) (fun _ => rfl) rfl (fun v4_7 h => ?_)
        refine zr_goto (q := 10) C dX9_fillChoice_58 (by decide) ?_
        exact zr_sub [1, 2, 3, 4, 0] rfl (ih v3 v4_7 s h)
      · skip
        refine zr_aload_n C dX9_fillChoice_26 (q := 27) rfl 0 rfl rfl ?_
        refine zr_get C dX9_fillChoice_27 (q := 30) zX_gX9_30_18 rfl ?_
        refine zr_get C dX9_fillChoice_30 (q := 33) zX_gX9_152_24 rfl ?_
        refine zr_iload_n C dX9_fillChoice_33 (q := 34) rfl 3 rfl rfl ?_
        refine zr_aload_n C dX9_fillChoice_34 (q := 35) rfl 0 rfl rfl ?_
        refine zr_get C dX9_fillChoice_35 (q := 38) zX_gX9_46_18 rfl ?_
        refine zr_iload C dX9_fillChoice_38 (q := 40) 4 rfl rfl ?_
        refine zr_bipush C dX9_fillChoice_40 (q := 42) (v := (10 : Int32)) (by decide) rfl ?_
        refine zr_imul C dX9_fillChoice_42 (q := 43) rfl ?_
        refine zr_aload_n C dX9_fillChoice_43 (q := 44) rfl 0 rfl rfl ?_
        refine zr_get C dX9_fillChoice_44 (q := 47) zX_gX9_18_18 rfl ?_
        refine zr_iload_n C dX9_fillChoice_47 (q := 48) rfl 1 rfl rfl ?_
        obtain ⟨hin_48, h⟩ := zx_ck_so h
        refine zr_iald C dX9_fillChoice_48 (q := 49) zX_a21 hin_48 rfl ?_
        refine zr_iadd C dX9_fillChoice_49 (q := 50) rfl ?_
        obtain ⟨hin_50, h⟩ := zx_ck_so h
        refine zr_iald C dX9_fillChoice_50 (q := 51) zX_a32 hin_50 rfl ?_
        refine zr_top h (fun x3 h => ?_)
        obtain ⟨hin_51, h⟩ := zx_ck_so h
        refine zr_iast C dX9_fillChoice_51 (q := 52) zX_a25 hin_51 rfl ?_
        refine zr_ls h (fun s4 h => ?_)
        refine zr_iinc C dX9_fillChoice_52 (q := 55) h (by decide) 3 rfl (by decide) (lw := fun v3_5 => [(3, .int v3_5), (0, .ref (zz_d Z 18)), (1, .int v1), (2, .int v2), (4, .int v4)]) (fun _ => rfl) rfl (fun v3_5 h => ?_)
        refine zr_iinc C dX9_fillChoice_55 (q := 58) h (by decide) 4 rfl (by decide) (lw := fun v4_6 => [(4, .int v4_6), (3, .int v3_5), (0, .ref (zz_d Z 18)), (1, .int v1), (2, .int v2)]) (fun _ => rfl) rfl (fun v4_6 h => ?_)
        refine zr_goto (q := 10) C dX9_fillChoice_58 (by decide) ?_
        exact zr_sub [2, 3, 4, 1, 0] rfl (ih v3_5 v4_6 s4 h)
set_option maxRecDepth 100000 in
set_option maxHeartbeats 4000000 in
theorem zX_Values_fillChoice_w {Z : zx_Z} (C : zx_ok zX_sd Z cX9_fillChoice 5 RX9 1 21) {r : zx_S} (p1 p2 : Int32) (s : zx_S) (hr : zx_rV zX_sd Z cX9_fillChoice 5 r) (h : zX_Values_fillChoice p1 p2 s = some r) : zW zX_sd Z 5 0 [(0, .ref (zz_d Z 18)), (1, .int p1), (2, .int p2)] [] s := by
  unfold zX_Values_fillChoice at h
  refine zr_aload_n C dX9_fillChoice_0 (q := 1) rfl 0 rfl rfl ?_
  refine zr_get C dX9_fillChoice_1 (q := 4) zX_gX9_24_18 rfl ?_
  refine zr_iload_n C dX9_fillChoice_4 (q := 5) rfl 1 rfl rfl ?_
  obtain ⟨hin_5, h⟩ := zx_ck_so h
  refine zr_iald C dX9_fillChoice_5 (q := 6) zX_a23 hin_5 rfl ?_
  refine zr_top h (fun v3_1 h => ?_)
  refine zr_istore_n C dX9_fillChoice_6 (q := 7) rfl (by decide) (lv' := [(3, .int v3_1), (0, .ref (zz_d Z 18)), (1, .int p1), (2, .int p2)]) rfl rfl ?_
  refine zr_iconst C dX9_fillChoice_7 (q := 8) (v := (0 : Int32)) (by decide) rfl ?_
  refine zr_istore C dX9_fillChoice_8 (q := 10) (by decide) (lv' := [(4, .int (0 : Int32)), (3, .int v3_1), (0, .ref (zz_d Z 18)), (1, .int p1), (2, .int p2)]) rfl rfl ?_
  refine zr_sub [2, 3, 4, 1, 0] rfl (zX_Values_fillChoice_L10_w C p1 p2 hr (fun v3_8 s9 h => ?_) 10000 v3_1 (0 : Int32) s h)
  · skip
    refine zr_aload_n C dX9_fillChoice_61 (q := 62) rfl 0 rfl rfl ?_
    refine zr_get C dX9_fillChoice_62 (q := 65) zX_gX9_15_18 rfl ?_
    refine zr_iload_n C dX9_fillChoice_65 (q := 66) rfl 1 rfl rfl ?_
    obtain ⟨hin_66, h⟩ := zx_ck_so h
    refine zr_iald C dX9_fillChoice_66 (q := 67) zX_a20 hin_66 rfl ?_
    refine zr_if_ne (tgt := 80) (q := 70) C dX9_fillChoice_67 h (by decide) rfl (fun h => ?_) (fun h => ?_)
    · skip
      exact zr_retV dX9_fillChoice_80 h hr
    · skip
      refine zr_aload_n C dX9_fillChoice_70 (q := 71) rfl 0 rfl rfl ?_
      refine zr_get C dX9_fillChoice_71 (q := 74) zX_gX9_30_18 rfl ?_
      refine zr_get C dX9_fillChoice_74 (q := 77) zX_gX9_152_24 rfl ?_
      refine zr_iload_n C dX9_fillChoice_77 (q := 78) rfl 2 rfl rfl ?_
      refine zr_iconst C dX9_fillChoice_78 (q := 79) (v := (0 : Int32)) (by decide) rfl ?_
      obtain ⟨hin_79, h⟩ := zx_ck_so h
      refine zr_iast C dX9_fillChoice_79 (q := 80) zX_a25 hin_79 rfl ?_
      refine zr_ls h (fun s10 h => ?_)
      exact zr_retV dX9_fillChoice_80 h hr
theorem zX_Values_fillChoice_met {l : Launch} {D : va_G} {cz : ClassId × ClassId} {ad : Nat → Nat} (hS : zx_So zX_sd) (hi : zx_I zX_sd ad) {p1 p2 : Int32} {s : zx_S} {s1 : zx_S} (h : zX_Values_fillChoice p1 p2 s = some s1) : zx_MV zX_sd l D cz ad yX9_fillChoice cX9_fillChoice 5 1 21 [.ref (ad 18), .int p1, .int p2] s s1 := zx_metV hS hi (by decide +kernel) rfl (Nat.le_of_ble_eq_true rfl) (fun Z e1 e2 e3 e4 C hr => by subst e1 e2 e3 e4; exact zX_Values_fillChoice_w C p1 p2 s hr h)
set_option maxRecDepth 100000 in
set_option maxHeartbeats 4000000 in
theorem zX_Values_fillChoices_L15_w {Z : zx_Z} (C : zx_ok zX_sd Z cX9_fillChoices 4 RX9 2 45) {r : zx_S} (v2 : Int32) {k49 : zx_S → Option zx_S} (hr : zx_rV zX_sd Z cX9_fillChoices 4 r) (h49 : ∀ (s1 : zx_S), k49 s1 = some r → zW zX_sd Z 4 49 [(0, .ref (zz_d Z 18)), (1, .ref (zz_d Z 11)), (2, .int v2)] [] s1) : ∀ (n : Nat) (v3 : Int32) (s : zx_S), zX_Values_fillChoices_L15 v2 k49 n v3 s = some r → zW zX_sd Z 4 15 [(0, .ref (zz_d Z 18)), (1, .ref (zz_d Z 11)), (2, .int v2), (3, .int v3)] [] s := by
  intro n
  induction n with
  | zero => intro v3 s h; unfold zX_Values_fillChoices_L15 at h; cases h
  | succ n ih =>
    intro v3 s h
    unfold zX_Values_fillChoices_L15 at h
    refine zr_iload_n C dX9_fillChoices_15 (q := 16) rfl 3 rfl rfl ?_
    refine zr_aload_n C dX9_fillChoices_16 (q := 17) rfl 0 rfl rfl ?_
    refine zr_get C dX9_fillChoices_17 (q := 20) zX_gX9_37_18 rfl ?_
    refine zr_iload_n C dX9_fillChoices_20 (q := 21) rfl 2 rfl rfl ?_
    obtain ⟨hin_21, h⟩ := zx_ck_so h
    refine zr_iald C dX9_fillChoices_21 (q := 22) zX_a29 hin_21 rfl ?_
    refine zr_aload_n C dX9_fillChoices_22 (q := 23) rfl 0 rfl rfl ?_
    refine zr_get C dX9_fillChoices_23 (q := 26) zX_gX9_40_18 rfl ?_
    refine zr_iload_n C dX9_fillChoices_26 (q := 27) rfl 2 rfl rfl ?_
    obtain ⟨hin_27, h⟩ := zx_ck_so h
    refine zr_iald C dX9_fillChoices_27 (q := 28) zX_a30 hin_27 rfl ?_
    refine zr_iadd C dX9_fillChoices_28 (q := 29) rfl ?_
    refine zr_icmp_ge (tgt := 49) (q := 32) C dX9_fillChoices_29 h (by decide) rfl (fun h => ?_) (fun h => ?_)
    · skip
      exact zr_sub [0, 1, 2] rfl (h49 s h)
    · skip
      refine zr_aload_n C dX9_fillChoices_32 (q := 33) rfl 0 rfl rfl ?_
      refine zr_iload_n C dX9_fillChoices_33 (q := 34) rfl 3 rfl rfl ?_
      refine zr_aload_n C dX9_fillChoices_34 (q := 35) rfl 1 rfl rfl ?_
      refine zr_get C dX9_fillChoices_35 (q := 38) zX_gX9_135_11 rfl ?_
      refine zr_iload_n C dX9_fillChoices_38 (q := 39) rfl 2 rfl rfl ?_
      obtain ⟨hin_39, h⟩ := zx_ck_so h
      refine zr_iald C dX9_fillChoices_39 (q := 40) zX_a13 hin_39 rfl ?_
      obtain ⟨s2, hc_40, h⟩ := zx_b1_so h
      refine zr_cvV (q := 43) C (As := [.int v3, .int (s 13 (v2).toNatClampNeg)]) (k := 18) (rest := []) dX9_fillChoices_40 (zX_Values_fillChoice_met C.2.2.2.2.1 C.2.2.2.1 hc_40) zX_vX9_167 zX_o18 ⟨by decide, by decide⟩ rfl (Nat.le_of_ble_eq_true rfl) rfl rfl ?_
      refine zr_iinc C dX9_fillChoices_43 (q := 46) h (by decide) 3 rfl (by decide) (lw := fun v3_3 => [(3, .int v3_3), (0, .ref (zz_d Z 18)), (1, .ref (zz_d Z 11)), (2, .int v2)]) (fun _ => rfl) rfl (fun v3_3 h => ?_)
      refine zr_goto (q := 15) C dX9_fillChoices_46 (by decide) ?_
      exact zr_sub [1, 2, 3, 0] rfl (ih v3_3 s2 h)
set_option maxRecDepth 100000 in
set_option maxHeartbeats 4000000 in
theorem zX_Values_fillChoices_L2_w {Z : zx_Z} (C : zx_ok zX_sd Z cX9_fillChoices 4 RX9 2 45) {r : zx_S} {k55 : zx_S → Option zx_S} (hr : zx_rV zX_sd Z cX9_fillChoices 4 r) (h55 : ∀ (s1 : zx_S), k55 s1 = some r → zW zX_sd Z 4 55 [] [] s1) : ∀ (n : Nat) (v2 : Int32) (s : zx_S), zX_Values_fillChoices_L2 k55 n v2 s = some r → zW zX_sd Z 4 2 [(0, .ref (zz_d Z 18)), (1, .ref (zz_d Z 11)), (2, .int v2)] [] s := by
  intro n
  induction n with
  | zero => intro v2 s h; unfold zX_Values_fillChoices_L2 at h; cases h
  | succ n ih =>
    intro v2 s h
    unfold zX_Values_fillChoices_L2 at h
    refine zr_iload_n C dX9_fillChoices_2 (q := 3) rfl 2 rfl rfl ?_
    refine zr_bipush C dX9_fillChoices_3 (q := 5) (v := (16 : Int32)) (by decide) rfl ?_
    refine zr_icmp_ge (tgt := 55) (q := 8) C dX9_fillChoices_5 h (by decide) rfl (fun h => ?_) (fun h => ?_)
    · skip
      exact zr_sub [] rfl (h55 s h)
    · skip
      refine zr_aload_n C dX9_fillChoices_8 (q := 9) rfl 0 rfl rfl ?_
      refine zr_get C dX9_fillChoices_9 (q := 12) zX_gX9_37_18 rfl ?_
      refine zr_iload_n C dX9_fillChoices_12 (q := 13) rfl 2 rfl rfl ?_
      obtain ⟨hin_13, h⟩ := zx_ck_so h
      refine zr_iald C dX9_fillChoices_13 (q := 14) zX_a29 hin_13 rfl ?_
      refine zr_top h (fun v3_1 h => ?_)
      refine zr_istore_n C dX9_fillChoices_14 (q := 15) rfl (by decide) (lv' := [(3, .int v3_1), (0, .ref (zz_d Z 18)), (1, .ref (zz_d Z 11)), (2, .int v2)]) rfl rfl ?_
      refine zr_sub [1, 2, 3, 0] rfl (zX_Values_fillChoices_L15_w C v2 hr (fun s4 h => ?_) 10000 v3_1 s h)
      · skip
        refine zr_iinc C dX9_fillChoices_49 (q := 52) h (by decide) 2 rfl (by decide) (lw := fun v2_5 => [(2, .int v2_5), (0, .ref (zz_d Z 18)), (1, .ref (zz_d Z 11))]) (fun _ => rfl) rfl (fun v2_5 h => ?_)
        refine zr_goto (q := 2) C dX9_fillChoices_52 (by decide) ?_
        exact zr_sub [1, 2, 0] rfl (ih v2_5 s4 h)
set_option maxRecDepth 100000 in
set_option maxHeartbeats 4000000 in
theorem zX_Values_fillChoices_w {Z : zx_Z} (C : zx_ok zX_sd Z cX9_fillChoices 4 RX9 2 45) {r : zx_S} (s : zx_S) (hr : zx_rV zX_sd Z cX9_fillChoices 4 r) (h : zX_Values_fillChoices s = some r) : zW zX_sd Z 4 0 [(0, .ref (zz_d Z 18)), (1, .ref (zz_d Z 11))] [] s := by
  unfold zX_Values_fillChoices at h
  refine zr_iconst C dX9_fillChoices_0 (q := 1) (v := (0 : Int32)) (by decide) rfl ?_
  refine zr_istore_n C dX9_fillChoices_1 (q := 2) rfl (by decide) (lv' := [(2, .int (0 : Int32)), (0, .ref (zz_d Z 18)), (1, .ref (zz_d Z 11))]) rfl rfl ?_
  refine zr_sub [1, 2, 0] rfl (zX_Values_fillChoices_L2_w C hr (fun s6 h => ?_) 10000 (0 : Int32) s h)
  · skip
    exact zr_retV dX9_fillChoices_55 h hr
theorem zX_Values_fillChoices_met {l : Launch} {D : va_G} {cz : ClassId × ClassId} {ad : Nat → Nat} (hS : zx_So zX_sd) (hi : zx_I zX_sd ad) {s : zx_S} {s1 : zx_S} (h : zX_Values_fillChoices s = some s1) : zx_MV zX_sd l D cz ad yX9_fillChoices cX9_fillChoices 4 2 45 [.ref (ad 18), .ref (ad 11)] s s1 := zx_metV hS hi (by decide +kernel) rfl (Nat.le_of_ble_eq_true rfl) (fun Z e1 e2 e3 e4 C hr => by subst e1 e2 e3 e4; exact zX_Values_fillChoices_w C s hr h)
set_option maxRecDepth 100000 in
set_option maxHeartbeats 4000000 in
theorem zX_Values_make_L23_w {Z : zx_Z} (C : zx_ok zX_sd Z cX9_make 5 RX9 4 94) {r : zx_S} (v3 : Int32) {k73 : zx_S → Option zx_S} (hr : zx_rV zX_sd Z cX9_make 5 r) (h73 : ∀ (s1 : zx_S), k73 s1 = some r → zW zX_sd Z 5 73 [(0, .ref (zz_d Z 18)), (1, .ref (zz_d Z 1)), (2, .ref (zz_d Z 11)), (3, .int v3)] [] s1) : ∀ (n : Nat) (v4 : Int32) (s : zx_S), zX_Values_make_L23 v3 k73 n v4 s = some r → zW zX_sd Z 5 23 [(0, .ref (zz_d Z 18)), (1, .ref (zz_d Z 1)), (2, .ref (zz_d Z 11)), (3, .int v3), (4, .int v4)] [] s := by
  intro n
  induction n with
  | zero => intro v4 s h; unfold zX_Values_make_L23 at h; cases h
  | succ n ih =>
    intro v4 s h
    unfold zX_Values_make_L23 at h
    refine zr_iload C dX9_make_23 (q := 25) 4 rfl rfl ?_
    refine zr_bipush C dX9_make_25 (q := 27) (v := (16 : Int32)) (by decide) rfl ?_
    refine zr_icmp_ge (tgt := 73) (q := 30) C dX9_make_27 h (by decide) rfl (fun h => ?_) (fun h => ?_)
    · skip
      exact zr_sub [0, 1, 2, 3] rfl (h73 s h)
    · skip
      refine zr_aload_n C dX9_make_30 (q := 31) rfl 2 rfl rfl ?_
      refine zr_iload C dX9_make_31 (q := 33) 4 rfl rfl ?_
      obtain ⟨r3, hc_33, h⟩ := zx_b1_so h
      refine zr_cvI (q := 36) C (As := [.int v4]) (k := 11) (rest := []) dX9_make_33 (zX_Graph_reaches_met C.2.2.2.2.1 C.2.2.2.1 hc_33) zX_vX9_68 zX_o11 ⟨by decide, by decide⟩ rfl (Nat.le_of_ble_eq_true rfl) rfl rfl ?_
      refine zr_if_eq (tgt := 67) (q := 39) C dX9_make_36 h (by decide) rfl (fun h => ?_) (fun h => ?_)
      · skip
        refine zr_iinc C dX9_make_67 (q := 70) h (by decide) 4 rfl (by decide) (lw := fun v4_9 => [(4, .int v4_9), (0, .ref (zz_d Z 18)), (1, .ref (zz_d Z 1)), (2, .ref (zz_d Z 11)), (3, .int v3)]) (fun _ => rfl) rfl (fun v4_9 h => ?_)
        refine zr_goto (q := 23) C dX9_make_70 (by decide) ?_
        exact zr_sub [1, 2, 3, 4, 0] rfl (ih v4_9 s h)
      · skip
        refine zr_aload_n C dX9_make_39 (q := 40) rfl 2 rfl rfl ?_
        refine zr_get C dX9_make_40 (q := 43) zX_gX9_73_11 rfl ?_
        refine zr_iload C dX9_make_43 (q := 45) 4 rfl rfl ?_
        obtain ⟨hin_45, h⟩ := zx_ck_so h
        refine zr_iald C dX9_make_45 (q := 46) zX_a15 hin_45 rfl ?_
        obtain ⟨r4, hc_46, h⟩ := zx_b1_so h
        refine zr_csI (q := 49) C (As := [.int (s 15 (v4).toNatClampNeg)]) (rest := []) dX9_make_46 (zX_Integer_bitCount_met C.2.2.2.2.1 C.2.2.2.1 hc_46) zX_sX9_76 ⟨by decide, by decide⟩ rfl (Nat.le_of_ble_eq_true rfl) rfl rfl ?_
        refine zr_iload_n C dX9_make_49 (q := 50) rfl 3 rfl rfl ?_
        refine zr_icmp_ne (tgt := 67) (q := 53) C dX9_make_50 h (by decide) rfl (fun h => ?_) (fun h => ?_)
        · skip
          refine zr_iinc C dX9_make_67 (q := 70) h (by decide) 4 rfl (by decide) (lw := fun v4_8 => [(4, .int v4_8), (0, .ref (zz_d Z 18)), (1, .ref (zz_d Z 1)), (2, .ref (zz_d Z 11)), (3, .int v3)]) (fun _ => rfl) rfl (fun v4_8 h => ?_)
          refine zr_goto (q := 23) C dX9_make_70 (by decide) ?_
          exact zr_sub [1, 2, 3, 4, 0] rfl (ih v4_8 s h)
        · skip
          refine zr_aload_n C dX9_make_53 (q := 54) rfl 0 rfl rfl ?_
          refine zr_aload_n C dX9_make_54 (q := 55) rfl 2 rfl rfl ?_
          refine zr_iload C dX9_make_55 (q := 57) 4 rfl rfl ?_
          obtain ⟨s5, hc_57, h⟩ := zx_b1_so h
          refine zr_cvV (q := 60) C (As := [.ref (zz_d Z 11), .int v4]) (k := 18) (rest := []) dX9_make_57 (zX_Values_beginBlock_met C.2.2.2.2.1 C.2.2.2.1 hc_57) zX_vX9_81 zX_o18 ⟨by decide, by decide⟩ rfl (Nat.le_of_ble_eq_true rfl) rfl rfl ?_
          refine zr_aload_n C dX9_make_60 (q := 61) rfl 0 rfl rfl ?_
          refine zr_aload_n C dX9_make_61 (q := 62) rfl 1 rfl rfl ?_
          refine zr_iload C dX9_make_62 (q := 64) 4 rfl rfl ?_
          obtain ⟨s6, hc_64, h⟩ := zx_b1_so h
          refine zr_cvV (q := 67) C (As := [.ref (zz_d Z 1), .int v4]) (k := 18) (rest := []) dX9_make_64 (zX_Values_followBlock_met C.2.2.2.2.1 C.2.2.2.1 hc_64) zX_vX9_85 zX_o18 ⟨by decide, by decide⟩ rfl (Nat.le_of_ble_eq_true rfl) rfl rfl ?_
          refine zr_iinc C dX9_make_67 (q := 70) h (by decide) 4 rfl (by decide) (lw := fun v4_7 => [(4, .int v4_7), (0, .ref (zz_d Z 18)), (1, .ref (zz_d Z 1)), (2, .ref (zz_d Z 11)), (3, .int v3)]) (fun _ => rfl) rfl (fun v4_7 h => ?_)
          refine zr_goto (q := 23) C dX9_make_70 (by decide) ?_
          exact zr_sub [1, 2, 3, 4, 0] rfl (ih v4_7 s6 h)
set_option maxRecDepth 100000 in
set_option maxHeartbeats 4000000 in
theorem zX_Values_make_L14_w {Z : zx_Z} (C : zx_ok zX_sd Z cX9_make 5 RX9 4 94) {r : zx_S} {k79 : zx_S → Option zx_S} (hr : zx_rV zX_sd Z cX9_make 5 r) (h79 : ∀ (s1 : zx_S), k79 s1 = some r → zW zX_sd Z 5 79 [(0, .ref (zz_d Z 18)), (2, .ref (zz_d Z 11))] [] s1) : ∀ (n : Nat) (v3 : Int32) (s : zx_S), zX_Values_make_L14 k79 n v3 s = some r → zW zX_sd Z 5 14 [(0, .ref (zz_d Z 18)), (1, .ref (zz_d Z 1)), (2, .ref (zz_d Z 11)), (3, .int v3)] [] s := by
  intro n
  induction n with
  | zero => intro v3 s h; unfold zX_Values_make_L14 at h; cases h
  | succ n ih =>
    intro v3 s h
    unfold zX_Values_make_L14 at h
    refine zr_iload_n C dX9_make_14 (q := 15) rfl 3 rfl rfl ?_
    refine zr_bipush C dX9_make_15 (q := 17) (v := (16 : Int32)) (by decide) rfl ?_
    refine zr_icmp_gt (tgt := 79) (q := 20) C dX9_make_17 h (by decide) rfl (fun h => ?_) (fun h => ?_)
    · skip
      exact zr_sub [0, 2] rfl (h79 s h)
    · skip
      refine zr_iconst C dX9_make_20 (q := 21) (v := (0 : Int32)) (by decide) rfl ?_
      refine zr_istore C dX9_make_21 (q := 23) (by decide) (lv' := [(4, .int (0 : Int32)), (0, .ref (zz_d Z 18)), (1, .ref (zz_d Z 1)), (2, .ref (zz_d Z 11)), (3, .int v3)]) rfl rfl ?_
      refine zr_sub [1, 2, 3, 4, 0] rfl (zX_Values_make_L23_w C v3 hr (fun s10 h => ?_) 10000 (0 : Int32) s h)
      · skip
        refine zr_iinc C dX9_make_73 (q := 76) h (by decide) 3 rfl (by decide) (lw := fun v3_11 => [(3, .int v3_11), (0, .ref (zz_d Z 18)), (1, .ref (zz_d Z 1)), (2, .ref (zz_d Z 11))]) (fun _ => rfl) rfl (fun v3_11 h => ?_)
        refine zr_goto (q := 14) C dX9_make_76 (by decide) ?_
        exact zr_sub [1, 2, 3, 0] rfl (ih v3_11 s10 h)
set_option maxRecDepth 100000 in
set_option maxHeartbeats 4000000 in
theorem zX_Values_make_w {Z : zx_Z} (C : zx_ok zX_sd Z cX9_make 5 RX9 4 94) {r : zx_S} (s : zx_S) (hr : zx_rV zX_sd Z cX9_make 5 r) (h : zX_Values_make s = some r) : zW zX_sd Z 5 0 [(0, .ref (zz_d Z 18)), (1, .ref (zz_d Z 1)), (2, .ref (zz_d Z 11))] [] s := by
  unfold zX_Values_make at h
  refine zr_aload_n C dX9_make_0 (q := 1) rfl 0 rfl rfl ?_
  refine zr_aload_n C dX9_make_1 (q := 2) rfl 1 rfl rfl ?_
  refine zr_aload_n C dX9_make_2 (q := 3) rfl 2 rfl rfl ?_
  obtain ⟨s1, hc_3, h⟩ := zx_b1_so h
  refine zr_cvV (q := 6) C (As := [.ref (zz_d Z 1), .ref (zz_d Z 11)]) (k := 18) (rest := []) dX9_make_3 (zX_Values_placeChoices_met C.2.2.2.2.1 C.2.2.2.1 hc_3) zX_vX9_61 zX_o18 ⟨by decide, by decide⟩ rfl (Nat.le_of_ble_eq_true rfl) rfl rfl ?_
  refine zr_aload_n C dX9_make_6 (q := 7) rfl 0 rfl rfl ?_
  refine zr_aload_n C dX9_make_7 (q := 8) rfl 1 rfl rfl ?_
  refine zr_aload_n C dX9_make_8 (q := 9) rfl 2 rfl rfl ?_
  obtain ⟨s2, hc_9, h⟩ := zx_b1_so h
  refine zr_cvV (q := 12) C (As := [.ref (zz_d Z 1), .ref (zz_d Z 11)]) (k := 18) (rest := []) dX9_make_9 (zX_Values_numberAll_met C.2.2.2.2.1 C.2.2.2.1 hc_9) zX_vX9_65 zX_o18 ⟨by decide, by decide⟩ rfl (Nat.le_of_ble_eq_true rfl) rfl rfl ?_
  refine zr_iconst C dX9_make_12 (q := 13) (v := (1 : Int32)) (by decide) rfl ?_
  refine zr_istore_n C dX9_make_13 (q := 14) rfl (by decide) (lv' := [(3, .int (1 : Int32)), (0, .ref (zz_d Z 18)), (1, .ref (zz_d Z 1)), (2, .ref (zz_d Z 11))]) rfl rfl ?_
  refine zr_sub [1, 2, 3, 0] rfl (zX_Values_make_L14_w C hr (fun s12 h => ?_) 10000 (1 : Int32) s2 h)
  · skip
    refine zr_aload_n C dX9_make_79 (q := 80) rfl 0 rfl rfl ?_
    refine zr_aload_n C dX9_make_80 (q := 81) rfl 1 rfl rfl ?_
    obtain ⟨s13, hc_81, h⟩ := zx_b1_so h
    refine zr_cvV (q := 84) C (As := [.ref (zz_d Z 11)]) (k := 18) (rest := []) dX9_make_81 (zX_Values_fillChoices_met C.2.2.2.2.1 C.2.2.2.1 hc_81) zX_vX9_89 zX_o18 ⟨by decide, by decide⟩ rfl (Nat.le_of_ble_eq_true rfl) rfl rfl ?_
    exact zr_retV dX9_make_84 h hr
theorem zX_Values_make_met {l : Launch} {D : va_G} {cz : ClassId × ClassId} {ad : Nat → Nat} (hS : zx_So zX_sd) (hi : zx_I zX_sd ad) {s : zx_S} {s1 : zx_S} (h : zX_Values_make s = some s1) : zx_MV zX_sd l D cz ad yX9_make cX9_make 5 4 94 [.ref (ad 18), .ref (ad 1), .ref (ad 11)] s s1 := zx_metV hS hi (by decide +kernel) rfl (Nat.le_of_ble_eq_true rfl) (fun Z e1 e2 e3 e4 C hr => by subst e1 e2 e3 e4; exact zX_Values_make_w C s hr h)
set_option maxRecDepth 100000 in
set_option maxHeartbeats 4000000 in
theorem zX_Classes_alike_w {Z : zx_Z} (C : zx_ok zX_sd Z cX0_alike 3 RX0 0 0) {r : Int32} (p1 p2 : Int32) (s : zx_S) (hr : zx_rI zX_sd Z cX0_alike 3 .boolean r s) (h : zX_Classes_alike p1 p2 s = some r) : zW zX_sd Z 3 0 [(0, .ref (zz_d Z 18)), (1, .int p1), (2, .int p2)] [] s := by
  unfold zX_Classes_alike at h
  refine zr_aload_n C dX0_alike_0 (q := 1) rfl 0 rfl rfl ?_
  refine zr_get C dX0_alike_1 (q := 4) zX_gX0_37_18 rfl ?_
  refine zr_iload_n C dX0_alike_4 (q := 5) rfl 1 rfl rfl ?_
  obtain ⟨hin_5, h⟩ := zx_ck_so h
  refine zr_iald C dX0_alike_5 (q := 6) zX_a19 hin_5 rfl ?_
  refine zr_aload_n C dX0_alike_6 (q := 7) rfl 0 rfl rfl ?_
  refine zr_get C dX0_alike_7 (q := 10) zX_gX0_37_18 rfl ?_
  refine zr_iload_n C dX0_alike_10 (q := 11) rfl 2 rfl rfl ?_
  obtain ⟨hin_11, h⟩ := zx_ck_so h
  refine zr_iald C dX0_alike_11 (q := 12) zX_a19 hin_11 rfl ?_
  refine zr_icmp_ne (tgt := 60) (q := 15) C dX0_alike_12 h (by decide) rfl (fun h => ?_) (fun h => ?_)
  · skip
    refine zr_iconst C dX0_alike_60 (q := 61) (v := (0 : Int32)) (by decide) rfl ?_
    exact zr_retZR dX0_alike_61 (Or.inl rfl) h hr
  · skip
    refine zr_aload_n C dX0_alike_15 (q := 16) rfl 0 rfl rfl ?_
    refine zr_get C dX0_alike_16 (q := 19) zX_gX0_40_18 rfl ?_
    refine zr_iload_n C dX0_alike_19 (q := 20) rfl 1 rfl rfl ?_
    obtain ⟨hin_20, h⟩ := zx_ck_so h
    refine zr_iald C dX0_alike_20 (q := 21) zX_a22 hin_20 rfl ?_
    refine zr_aload_n C dX0_alike_21 (q := 22) rfl 0 rfl rfl ?_
    refine zr_get C dX0_alike_22 (q := 25) zX_gX0_40_18 rfl ?_
    refine zr_iload_n C dX0_alike_25 (q := 26) rfl 2 rfl rfl ?_
    obtain ⟨hin_26, h⟩ := zx_ck_so h
    refine zr_iald C dX0_alike_26 (q := 27) zX_a22 hin_26 rfl ?_
    refine zr_icmp_ne (tgt := 60) (q := 30) C dX0_alike_27 h (by decide) rfl (fun h => ?_) (fun h => ?_)
    · skip
      refine zr_iconst C dX0_alike_60 (q := 61) (v := (0 : Int32)) (by decide) rfl ?_
      exact zr_retZR dX0_alike_61 (Or.inl rfl) h hr
    · skip
      refine zr_aload_n C dX0_alike_30 (q := 31) rfl 0 rfl rfl ?_
      refine zr_get C dX0_alike_31 (q := 34) zX_gX0_37_18 rfl ?_
      refine zr_iload_n C dX0_alike_34 (q := 35) rfl 1 rfl rfl ?_
      obtain ⟨hin_35, h⟩ := zx_ck_so h
      refine zr_iald C dX0_alike_35 (q := 36) zX_a19 hin_35 rfl ?_
      refine zr_bipush C dX0_alike_36 (q := 38) (v := (15 : Int32)) (by decide) rfl ?_
      refine zr_icmp_ne (tgt := 56) (q := 41) C dX0_alike_38 h (by decide) rfl (fun h => ?_) (fun h => ?_)
      · skip
        refine zr_iconst C dX0_alike_56 (q := 57) (v := (1 : Int32)) (by decide) rfl ?_
        refine zr_goto (q := 61) C dX0_alike_57 (by decide) ?_
        exact zr_retZR dX0_alike_61 (Or.inr rfl) h hr
      · skip
        refine zr_aload_n C dX0_alike_41 (q := 42) rfl 0 rfl rfl ?_
        refine zr_get C dX0_alike_42 (q := 45) zX_gX0_43_18 rfl ?_
        refine zr_iload_n C dX0_alike_45 (q := 46) rfl 1 rfl rfl ?_
        obtain ⟨hin_46, h⟩ := zx_ck_so h
        refine zr_iald C dX0_alike_46 (q := 47) zX_a20 hin_46 rfl ?_
        refine zr_aload_n C dX0_alike_47 (q := 48) rfl 0 rfl rfl ?_
        refine zr_get C dX0_alike_48 (q := 51) zX_gX0_43_18 rfl ?_
        refine zr_iload_n C dX0_alike_51 (q := 52) rfl 2 rfl rfl ?_
        obtain ⟨hin_52, h⟩ := zx_ck_so h
        refine zr_iald C dX0_alike_52 (q := 53) zX_a20 hin_52 rfl ?_
        refine zr_icmp_ne (tgt := 60) (q := 56) C dX0_alike_53 h (by decide) rfl (fun h => ?_) (fun h => ?_)
        · skip
          refine zr_iconst C dX0_alike_60 (q := 61) (v := (0 : Int32)) (by decide) rfl ?_
          exact zr_retZR dX0_alike_61 (Or.inl rfl) h hr
        · skip
          refine zr_iconst C dX0_alike_56 (q := 57) (v := (1 : Int32)) (by decide) rfl ?_
          refine zr_goto (q := 61) C dX0_alike_57 (by decide) ?_
          exact zr_retZR dX0_alike_61 (Or.inr rfl) h hr
theorem zX_Classes_alike_met {l : Launch} {D : va_G} {cz : ClassId × ClassId} {ad : Nat → Nat} (hS : zx_So zX_sd) (hi : zx_I zX_sd ad) {p1 p2 : Int32} {s : zx_S} {v : Int32} (h : zX_Classes_alike p1 p2 s = some v) : zx_MI zX_sd l D cz ad yX0_alike cX0_alike 3 .boolean 0 0 [.ref (ad 18), .int p1, .int p2] s v s := zx_metI hS hi (by decide +kernel) rfl (Nat.le_of_ble_eq_true rfl) (fun Z e1 e2 e3 e4 C hr => by subst e1 e2 e3 e4; exact zX_Classes_alike_w C p1 p2 s hr h)
set_option maxRecDepth 100000 in
set_option maxHeartbeats 4000000 in
theorem zX_Classes_leastAlike_L2_w {Z : zx_Z} (C : zx_ok zX_sd Z cX0_leastAlike 4 RX0 1 22) {r : Int32} (v2 : Int32) (s : zx_S) {k26 : Int32 → Option Int32} (hr : zx_rI zX_sd Z cX0_leastAlike 4 .int r s) (h26 : ∀ (a0 : Int32), k26 a0 = some r → zW zX_sd Z 4 26 [(3, .int a0)] [] s) : ∀ (n : Nat) (v3 : Int32), zX_Classes_leastAlike_L2 v2 s k26 n v3 = some r → zW zX_sd Z 4 2 [(0, .ref (zz_d Z 33)), (1, .ref (zz_d Z 18)), (2, .int v2), (3, .int v3)] [] s := by
  intro n
  induction n with
  | zero => intro v3 h; unfold zX_Classes_leastAlike_L2 at h; cases h
  | succ n ih =>
    intro v3 h
    unfold zX_Classes_leastAlike_L2 at h
    refine zr_iload_n C dX0_leastAlike_2 (q := 3) rfl 3 rfl rfl ?_
    refine zr_iload_n C dX0_leastAlike_3 (q := 4) rfl 2 rfl rfl ?_
    refine zr_icmp_ge (tgt := 34) (q := 7) C dX0_leastAlike_4 h (by decide) rfl (fun h => ?_) (fun h => ?_)
    · skip
      refine zr_iload_n C dX0_leastAlike_34 (q := 35) rfl 2 rfl rfl ?_
      exact zr_retR dX0_leastAlike_35 h hr
    · skip
      refine zr_aload_n C dX0_leastAlike_7 (q := 8) rfl 0 rfl rfl ?_
      refine zr_get C dX0_leastAlike_8 (q := 11) zX_gX0_9_33 rfl ?_
      refine zr_iload_n C dX0_leastAlike_11 (q := 12) rfl 3 rfl rfl ?_
      obtain ⟨hin_12, h⟩ := zx_ck_so h
      refine zr_iald C dX0_leastAlike_12 (q := 13) zX_a34 hin_12 rfl ?_
      refine zr_iload_n C dX0_leastAlike_13 (q := 14) rfl 3 rfl rfl ?_
      refine zr_icmp_ne (tgt := 28) (q := 17) C dX0_leastAlike_14 h (by decide) rfl (fun h => ?_) (fun h => ?_)
      · skip
        refine zr_iinc C dX0_leastAlike_28 (q := 31) h (by decide) 3 rfl (by decide) (lw := fun v3_3 => [(3, .int v3_3), (0, .ref (zz_d Z 33)), (1, .ref (zz_d Z 18)), (2, .int v2)]) (fun _ => rfl) rfl (fun v3_3 h => ?_)
        refine zr_goto (q := 2) C dX0_leastAlike_31 (by decide) ?_
        exact zr_sub [1, 2, 3, 0] rfl (ih v3_3 h)
      · skip
        refine zr_aload_n C dX0_leastAlike_17 (q := 18) rfl 1 rfl rfl ?_
        refine zr_iload_n C dX0_leastAlike_18 (q := 19) rfl 3 rfl rfl ?_
        refine zr_iload_n C dX0_leastAlike_19 (q := 20) rfl 2 rfl rfl ?_
        obtain ⟨r1, hc_20, h⟩ := zx_b1_so h
        refine zr_csI (q := 23) C (As := [.ref (zz_d Z 18), .int v3, .int v2]) (rest := []) dX0_leastAlike_20 (zX_Classes_alike_met C.2.2.2.2.1 C.2.2.2.1 hc_20) zX_sX0_33 ⟨by decide, by decide⟩ rfl (Nat.le_of_ble_eq_true rfl) rfl rfl ?_
        refine zr_if_eq (tgt := 28) (q := 26) C dX0_leastAlike_23 h (by decide) rfl (fun h => ?_) (fun h => ?_)
        · skip
          refine zr_iinc C dX0_leastAlike_28 (q := 31) h (by decide) 3 rfl (by decide) (lw := fun v3_2 => [(3, .int v3_2), (0, .ref (zz_d Z 33)), (1, .ref (zz_d Z 18)), (2, .int v2)]) (fun _ => rfl) rfl (fun v3_2 h => ?_)
          refine zr_goto (q := 2) C dX0_leastAlike_31 (by decide) ?_
          exact zr_sub [1, 2, 3, 0] rfl (ih v3_2 h)
        · skip
          exact zr_sub [3] rfl (h26 v3 h)
set_option maxRecDepth 100000 in
set_option maxHeartbeats 4000000 in
theorem zX_Classes_leastAlike_w {Z : zx_Z} (C : zx_ok zX_sd Z cX0_leastAlike 4 RX0 1 22) {r : Int32} (p2 : Int32) (s : zx_S) (hr : zx_rI zX_sd Z cX0_leastAlike 4 .int r s) (h : zX_Classes_leastAlike p2 s = some r) : zW zX_sd Z 4 0 [(0, .ref (zz_d Z 33)), (1, .ref (zz_d Z 18)), (2, .int p2)] [] s := by
  unfold zX_Classes_leastAlike at h
  refine zr_iconst C dX0_leastAlike_0 (q := 1) (v := (0 : Int32)) (by decide) rfl ?_
  refine zr_istore_n C dX0_leastAlike_1 (q := 2) rfl (by decide) (lv' := [(3, .int (0 : Int32)), (0, .ref (zz_d Z 33)), (1, .ref (zz_d Z 18)), (2, .int p2)]) rfl rfl ?_
  refine zr_sub [1, 2, 3, 0] rfl (zX_Classes_leastAlike_L2_w C p2 s hr (fun v3_4 h => ?_) 10000 (0 : Int32) h)
  · skip
    refine zr_iload_n C dX0_leastAlike_26 (q := 27) rfl 0 rfl rfl ?_
    exact zr_retR dX0_leastAlike_27 h hr
theorem zX_Classes_leastAlike_met {l : Launch} {D : va_G} {cz : ClassId × ClassId} {ad : Nat → Nat} (hS : zx_So zX_sd) (hi : zx_I zX_sd ad) {p2 : Int32} {s : zx_S} {v : Int32} (h : zX_Classes_leastAlike p2 s = some v) : zx_MI zX_sd l D cz ad yX0_leastAlike cX0_leastAlike 4 .int 1 22 [.ref (ad 33), .ref (ad 18), .int p2] s v s := zx_metI hS hi (by decide +kernel) rfl (Nat.le_of_ble_eq_true rfl) (fun Z e1 e2 e3 e4 C hr => by subst e1 e2 e3 e4; exact zX_Classes_leastAlike_w C p2 s hr h)
set_option maxRecDepth 100000 in
set_option maxHeartbeats 4000000 in
theorem zX_Values_operandsOf_w {Z : zx_Z} (C : zx_ok zX_sd Z cX9_operandsOf 2 RX9 0 0) {r : Int32} (p1 : Int32) (s : zx_S) (hr : zx_rI zX_sd Z cX9_operandsOf 2 .int r s) (h : zX_Values_operandsOf p1 s = some r) : zW zX_sd Z 2 0 [(0, .ref (zz_d Z 18)), (1, .int p1)] [] s := by
  unfold zX_Values_operandsOf at h
  refine zr_aload_n C dX9_operandsOf_0 (q := 1) rfl 0 rfl rfl ?_
  refine zr_get C dX9_operandsOf_1 (q := 4) zX_gX9_24_18 rfl ?_
  refine zr_iload_n C dX9_operandsOf_4 (q := 5) rfl 1 rfl rfl ?_
  refine zr_iconst C dX9_operandsOf_5 (q := 6) (v := (1 : Int32)) (by decide) rfl ?_
  refine zr_iadd C dX9_operandsOf_6 (q := 7) rfl ?_
  obtain ⟨hin_7, h⟩ := zx_ck_so h
  refine zr_iald C dX9_operandsOf_7 (q := 8) zX_a23 hin_7 rfl ?_
  refine zr_aload_n C dX9_operandsOf_8 (q := 9) rfl 0 rfl rfl ?_
  refine zr_get C dX9_operandsOf_9 (q := 12) zX_gX9_24_18 rfl ?_
  refine zr_iload_n C dX9_operandsOf_12 (q := 13) rfl 1 rfl rfl ?_
  obtain ⟨hin_13, h⟩ := zx_ck_so h
  refine zr_iald C dX9_operandsOf_13 (q := 14) zX_a23 hin_13 rfl ?_
  refine zr_isub C dX9_operandsOf_14 (q := 15) rfl ?_
  exact zr_retR dX9_operandsOf_15 h hr
theorem zX_Values_operandsOf_met {l : Launch} {D : va_G} {cz : ClassId × ClassId} {ad : Nat → Nat} (hS : zx_So zX_sd) (hi : zx_I zX_sd ad) {p1 : Int32} {s : zx_S} {v : Int32} (h : zX_Values_operandsOf p1 s = some v) : zx_MI zX_sd l D cz ad yX9_operandsOf cX9_operandsOf 2 .int 0 0 [.ref (ad 18), .int p1] s v s := zx_metI hS hi (by decide +kernel) rfl (Nat.le_of_ble_eq_true rfl) (fun Z e1 e2 e3 e4 C hr => by subst e1 e2 e3 e4; exact zX_Values_operandsOf_w C p1 s hr h)
set_option maxRecDepth 100000 in
set_option maxHeartbeats 4000000 in
theorem zX_Classes_together_w {Z : zx_Z} (C : zx_ok zX_sd Z cX0_together 4 RX0 0 0) {r : Int32} (p2 p3 : Int32) (s : zx_S) (hr : zx_rI zX_sd Z cX0_together 4 .boolean r s) (h : zX_Classes_together p2 p3 s = some r) : zW zX_sd Z 4 0 [(0, .ref (zz_d Z 33)), (1, .ref (zz_d Z 18)), (2, .int p2), (3, .int p3)] [] s := by
  unfold zX_Classes_together at h
  refine zr_aload_n C dX0_together_0 (q := 1) rfl 0 rfl rfl ?_
  refine zr_get C dX0_together_1 (q := 4) zX_gX0_9_33 rfl ?_
  refine zr_aload_n C dX0_together_4 (q := 5) rfl 1 rfl rfl ?_
  refine zr_get C dX0_together_5 (q := 8) zX_gX0_72_18 rfl ?_
  refine zr_get C dX0_together_8 (q := 11) zX_gX0_76_24 rfl ?_
  refine zr_iload_n C dX0_together_11 (q := 12) rfl 2 rfl rfl ?_
  obtain ⟨hin_12, h⟩ := zx_ck_so h
  refine zr_iald C dX0_together_12 (q := 13) zX_a25 hin_12 rfl ?_
  obtain ⟨hin_13, h⟩ := zx_ck_so h
  refine zr_iald C dX0_together_13 (q := 14) zX_a34 hin_13 rfl ?_
  refine zr_aload_n C dX0_together_14 (q := 15) rfl 0 rfl rfl ?_
  refine zr_get C dX0_together_15 (q := 18) zX_gX0_9_33 rfl ?_
  refine zr_aload_n C dX0_together_18 (q := 19) rfl 1 rfl rfl ?_
  refine zr_get C dX0_together_19 (q := 22) zX_gX0_72_18 rfl ?_
  refine zr_get C dX0_together_22 (q := 25) zX_gX0_76_24 rfl ?_
  refine zr_iload_n C dX0_together_25 (q := 26) rfl 3 rfl rfl ?_
  obtain ⟨hin_26, h⟩ := zx_ck_so h
  refine zr_iald C dX0_together_26 (q := 27) zX_a25 hin_26 rfl ?_
  obtain ⟨hin_27, h⟩ := zx_ck_so h
  refine zr_iald C dX0_together_27 (q := 28) zX_a34 hin_27 rfl ?_
  refine zr_icmp_ne (tgt := 35) (q := 31) C dX0_together_28 h (by decide) rfl (fun h => ?_) (fun h => ?_)
  · skip
    refine zr_iconst C dX0_together_35 (q := 36) (v := (0 : Int32)) (by decide) rfl ?_
    exact zr_retZR dX0_together_36 (Or.inl rfl) h hr
  · skip
    refine zr_iconst C dX0_together_31 (q := 32) (v := (1 : Int32)) (by decide) rfl ?_
    refine zr_goto (q := 36) C dX0_together_32 (by decide) ?_
    exact zr_retZR dX0_together_36 (Or.inr rfl) h hr
theorem zX_Classes_together_met {l : Launch} {D : va_G} {cz : ClassId × ClassId} {ad : Nat → Nat} (hS : zx_So zX_sd) (hi : zx_I zX_sd ad) {p2 p3 : Int32} {s : zx_S} {v : Int32} (h : zX_Classes_together p2 p3 s = some v) : zx_MI zX_sd l D cz ad yX0_together cX0_together 4 .boolean 0 0 [.ref (ad 33), .ref (ad 18), .int p2, .int p3] s v s := zx_metI hS hi (by decide +kernel) rfl (Nat.le_of_ble_eq_true rfl) (fun Z e1 e2 e3 e4 C hr => by subst e1 e2 e3 e4; exact zX_Classes_together_w C p2 p3 s hr h)
set_option maxRecDepth 100000 in
set_option maxHeartbeats 4000000 in
theorem zX_Classes_isEven_w {Z : zx_Z} (C : zx_ok zX_sd Z cX0_isEven 1 RX0 0 0) {r : Int32} (p0 : Int32) (s : zx_S) (hr : zx_rI zX_sd Z cX0_isEven 1 .boolean r s) (h : zX_Classes_isEven p0 s = some r) : zW zX_sd Z 1 0 [(0, .int p0)] [] s := by
  unfold zX_Classes_isEven at h
  refine zr_iload_n C dX0_isEven_0 (q := 1) rfl 0 rfl rfl ?_
  refine zr_iconst C dX0_isEven_1 (q := 2) (v := (3 : Int32)) (by decide) rfl ?_
  refine zr_icmp_eq (tgt := 34) (q := 5) C dX0_isEven_2 h (by decide) rfl (fun h => ?_) (fun h => ?_)
  · skip
    refine zr_iconst C dX0_isEven_34 (q := 35) (v := (1 : Int32)) (by decide) rfl ?_
    refine zr_goto (q := 39) C dX0_isEven_35 (by decide) ?_
    exact zr_retZR dX0_isEven_39 (Or.inr rfl) h hr
  · skip
    refine zr_iload_n C dX0_isEven_5 (q := 6) rfl 0 rfl rfl ?_
    refine zr_iconst C dX0_isEven_6 (q := 7) (v := (5 : Int32)) (by decide) rfl ?_
    refine zr_icmp_eq (tgt := 34) (q := 10) C dX0_isEven_7 h (by decide) rfl (fun h => ?_) (fun h => ?_)
    · skip
      refine zr_iconst C dX0_isEven_34 (q := 35) (v := (1 : Int32)) (by decide) rfl ?_
      refine zr_goto (q := 39) C dX0_isEven_35 (by decide) ?_
      exact zr_retZR dX0_isEven_39 (Or.inr rfl) h hr
    · skip
      refine zr_iload_n C dX0_isEven_10 (q := 11) rfl 0 rfl rfl ?_
      refine zr_bipush C dX0_isEven_11 (q := 13) (v := (6 : Int32)) (by decide) rfl ?_
      refine zr_icmp_eq (tgt := 34) (q := 16) C dX0_isEven_13 h (by decide) rfl (fun h => ?_) (fun h => ?_)
      · skip
        refine zr_iconst C dX0_isEven_34 (q := 35) (v := (1 : Int32)) (by decide) rfl ?_
        refine zr_goto (q := 39) C dX0_isEven_35 (by decide) ?_
        exact zr_retZR dX0_isEven_39 (Or.inr rfl) h hr
      · skip
        refine zr_iload_n C dX0_isEven_16 (q := 17) rfl 0 rfl rfl ?_
        refine zr_bipush C dX0_isEven_17 (q := 19) (v := (7 : Int32)) (by decide) rfl ?_
        refine zr_icmp_eq (tgt := 34) (q := 22) C dX0_isEven_19 h (by decide) rfl (fun h => ?_) (fun h => ?_)
        · skip
          refine zr_iconst C dX0_isEven_34 (q := 35) (v := (1 : Int32)) (by decide) rfl ?_
          refine zr_goto (q := 39) C dX0_isEven_35 (by decide) ?_
          exact zr_retZR dX0_isEven_39 (Or.inr rfl) h hr
        · skip
          refine zr_iload_n C dX0_isEven_22 (q := 23) rfl 0 rfl rfl ?_
          refine zr_bipush C dX0_isEven_23 (q := 25) (v := (8 : Int32)) (by decide) rfl ?_
          refine zr_icmp_eq (tgt := 34) (q := 28) C dX0_isEven_25 h (by decide) rfl (fun h => ?_) (fun h => ?_)
          · skip
            refine zr_iconst C dX0_isEven_34 (q := 35) (v := (1 : Int32)) (by decide) rfl ?_
            refine zr_goto (q := 39) C dX0_isEven_35 (by decide) ?_
            exact zr_retZR dX0_isEven_39 (Or.inr rfl) h hr
          · skip
            refine zr_iload_n C dX0_isEven_28 (q := 29) rfl 0 rfl rfl ?_
            refine zr_bipush C dX0_isEven_29 (q := 31) (v := (9 : Int32)) (by decide) rfl ?_
            refine zr_icmp_ne (tgt := 38) (q := 34) C dX0_isEven_31 h (by decide) rfl (fun h => ?_) (fun h => ?_)
            · skip
              refine zr_iconst C dX0_isEven_38 (q := 39) (v := (0 : Int32)) (by decide) rfl ?_
              exact zr_retZR dX0_isEven_39 (Or.inl rfl) h hr
            · skip
              refine zr_iconst C dX0_isEven_34 (q := 35) (v := (1 : Int32)) (by decide) rfl ?_
              refine zr_goto (q := 39) C dX0_isEven_35 (by decide) ?_
              exact zr_retZR dX0_isEven_39 (Or.inr rfl) h hr
theorem zX_Classes_isEven_met {l : Launch} {D : va_G} {cz : ClassId × ClassId} {ad : Nat → Nat} (hS : zx_So zX_sd) (hi : zx_I zX_sd ad) {p0 : Int32} {s : zx_S} {v : Int32} (h : zX_Classes_isEven p0 s = some v) : zx_MI zX_sd l D cz ad yX0_isEven cX0_isEven 1 .boolean 0 0 [.int p0] s v s := zx_metI hS hi (by decide +kernel) rfl (Nat.le_of_ble_eq_true rfl) (fun Z e1 e2 e3 e4 C hr => by subst e1 e2 e3 e4; exact zX_Classes_isEven_w C p0 s hr h)
set_option maxRecDepth 100000 in
set_option maxHeartbeats 4000000 in
theorem zX_Classes_operandsAgree_L29_w {Z : zx_Z} (C : zx_ok zX_sd Z cX0_operandsAgree 9 RX0 1 23) {r : Int32} (v2 v4 v5 v6 : Int32) (s : zx_S) {k64 : Int32 → Option Int32} (hr : zx_rI zX_sd Z cX0_operandsAgree 9 .boolean r s) (h64 : ∀ (a0 : Int32), k64 a0 = some r → zW zX_sd Z 9 64 [(0, .ref (zz_d Z 33)), (1, .ref (zz_d Z 18)), (2, .int v2), (4, .int v4), (5, .int v5), (7, .int a0)] [] s) : ∀ (n : Nat) (v7 : Int32) (v8 : Int32), zX_Classes_operandsAgree_L29 v2 v4 v5 v6 s k64 n v7 v8 = some r → zW zX_sd Z 9 29 [(0, .ref (zz_d Z 33)), (1, .ref (zz_d Z 18)), (2, .int v2), (4, .int v4), (5, .int v5), (6, .int v6), (7, .int v7), (8, .int v8)] [] s := by
  intro n
  induction n with
  | zero => intro v7 v8 h; unfold zX_Classes_operandsAgree_L29 at h; cases h
  | succ n ih =>
    intro v7 v8 h
    unfold zX_Classes_operandsAgree_L29 at h
    refine zr_iload C dX0_operandsAgree_29 (q := 31) 7 rfl rfl ?_
    refine zr_iload C dX0_operandsAgree_31 (q := 33) 5 rfl rfl ?_
    refine zr_icmp_ge (tgt := 64) (q := 36) C dX0_operandsAgree_33 h (by decide) rfl (fun h => ?_) (fun h => ?_)
    · skip
      exact zr_sub [0, 1, 2, 3, 4, 6] rfl (h64 v7 h)
    · skip
      refine zr_iload C dX0_operandsAgree_36 (q := 38) 6 rfl rfl ?_
      refine zr_if_eq (tgt := 64) (q := 41) C dX0_operandsAgree_38 h (by decide) rfl (fun h => ?_) (fun h => ?_)
      · skip
        exact zr_sub [0, 1, 2, 3, 4, 6] rfl (h64 v7 h)
      · skip
        refine zr_aload_n C dX0_operandsAgree_41 (q := 42) rfl 0 rfl rfl ?_
        refine zr_aload_n C dX0_operandsAgree_42 (q := 43) rfl 1 rfl rfl ?_
        refine zr_iload C dX0_operandsAgree_43 (q := 45) 3 rfl rfl ?_
        refine zr_iload C dX0_operandsAgree_45 (q := 47) 7 rfl rfl ?_
        refine zr_iadd C dX0_operandsAgree_47 (q := 48) rfl ?_
        refine zr_iload C dX0_operandsAgree_48 (q := 50) 4 rfl rfl ?_
        refine zr_iload C dX0_operandsAgree_50 (q := 52) 7 rfl rfl ?_
        refine zr_iadd C dX0_operandsAgree_52 (q := 53) rfl ?_
        obtain ⟨r4, hc_53, h⟩ := zx_b1_so h
        refine zr_cvI (q := 56) C (As := [.ref (zz_d Z 18), .int (v4 + v8), .int (v5 + v8)]) (k := 33) (rest := []) dX0_operandsAgree_53 (zX_Classes_together_met C.2.2.2.2.1 C.2.2.2.1 hc_53) zX_vX0_65 zX_o33 ⟨by decide, by decide⟩ rfl (Nat.le_of_ble_eq_true rfl) rfl rfl ?_
        refine zr_istore C dX0_operandsAgree_56 (q := 58) (by decide) (lv' := [(7, .int r4), (0, .ref (zz_d Z 33)), (1, .ref (zz_d Z 18)), (2, .int v2), (4, .int v4), (5, .int v5), (6, .int v6), (8, .int v8)]) rfl rfl ?_
        refine zr_iinc C dX0_operandsAgree_58 (q := 61) h (by decide) 7 rfl (by decide) (lw := fun v8_5 => [(8, .int v8_5), (7, .int r4), (0, .ref (zz_d Z 33)), (1, .ref (zz_d Z 18)), (2, .int v2), (4, .int v4), (5, .int v5), (6, .int v6)]) (fun _ => rfl) rfl (fun v8_5 h => ?_)
        refine zr_goto (q := 29) C dX0_operandsAgree_61 (by decide) ?_
        exact zr_sub [2, 3, 4, 5, 6, 7, 1, 0] rfl (ih r4 v8_5 h)
set_option maxRecDepth 100000 in
set_option maxHeartbeats 4000000 in
theorem zX_Classes_operandsAgree_w {Z : zx_Z} (C : zx_ok zX_sd Z cX0_operandsAgree 9 RX0 1 23) {r : Int32} (p2 p3 : Int32) (s : zx_S) (hr : zx_rI zX_sd Z cX0_operandsAgree 9 .boolean r s) (h : zX_Classes_operandsAgree p2 p3 s = some r) : zW zX_sd Z 9 0 [(0, .ref (zz_d Z 33)), (1, .ref (zz_d Z 18)), (2, .int p2), (3, .int p3)] [] s := by
  unfold zX_Classes_operandsAgree at h
  refine zr_aload_n C dX0_operandsAgree_0 (q := 1) rfl 1 rfl rfl ?_
  refine zr_get C dX0_operandsAgree_1 (q := 4) zX_gX0_58_18 rfl ?_
  refine zr_iload_n C dX0_operandsAgree_4 (q := 5) rfl 2 rfl rfl ?_
  obtain ⟨hin_5, h⟩ := zx_ck_so h
  refine zr_iald C dX0_operandsAgree_5 (q := 6) zX_a23 hin_5 rfl ?_
  refine zr_top h (fun v4_1 h => ?_)
  refine zr_istore C dX0_operandsAgree_6 (q := 8) (by decide) (lv' := [(4, .int v4_1), (0, .ref (zz_d Z 33)), (1, .ref (zz_d Z 18)), (2, .int p2), (3, .int p3)]) rfl rfl ?_
  refine zr_aload_n C dX0_operandsAgree_8 (q := 9) rfl 2 rfl rfl ?_
  refine zr_get C dX0_operandsAgree_9 (q := 12) zX_gX0_58_18 rfl ?_
  refine zr_iload_n C dX0_operandsAgree_12 (q := 13) rfl 4 rfl rfl ?_
  obtain ⟨hin_13, h⟩ := zx_ck_so h
  refine zr_iald C dX0_operandsAgree_13 (q := 14) zX_a23 hin_13 rfl ?_
  refine zr_top h (fun v5_2 h => ?_)
  refine zr_istore C dX0_operandsAgree_14 (q := 16) (by decide) (lv' := [(5, .int v5_2), (4, .int v4_1), (0, .ref (zz_d Z 33)), (1, .ref (zz_d Z 18)), (2, .int p2), (3, .int p3)]) rfl rfl ?_
  refine zr_aload_n C dX0_operandsAgree_16 (q := 17) rfl 3 rfl rfl ?_
  refine zr_iload_n C dX0_operandsAgree_17 (q := 18) rfl 4 rfl rfl ?_
  obtain ⟨r3, hc_18, h⟩ := zx_b1_so h
  refine zr_cvI (q := 21) C (As := [.int p2]) (k := 18) (rest := []) dX0_operandsAgree_18 (zX_Values_operandsOf_met C.2.2.2.2.1 C.2.2.2.1 hc_18) zX_vX0_61 zX_o18 ⟨by decide, by decide⟩ rfl (Nat.le_of_ble_eq_true rfl) rfl rfl ?_
  refine zr_istore C dX0_operandsAgree_21 (q := 23) (by decide) (lv' := [(6, .int r3), (5, .int v5_2), (4, .int v4_1), (0, .ref (zz_d Z 33)), (1, .ref (zz_d Z 18)), (2, .int p2), (3, .int p3)]) rfl rfl ?_
  refine zr_iconst C dX0_operandsAgree_23 (q := 24) (v := (1 : Int32)) (by decide) rfl ?_
  refine zr_istore C dX0_operandsAgree_24 (q := 26) (by decide) (lv' := [(7, .int (1 : Int32)), (6, .int r3), (5, .int v5_2), (4, .int v4_1), (0, .ref (zz_d Z 33)), (1, .ref (zz_d Z 18)), (2, .int p2), (3, .int p3)]) rfl rfl ?_
  refine zr_iconst C dX0_operandsAgree_26 (q := 27) (v := (0 : Int32)) (by decide) rfl ?_
  refine zr_istore C dX0_operandsAgree_27 (q := 29) (by decide) (lv' := [(8, .int (0 : Int32)), (7, .int (1 : Int32)), (6, .int r3), (5, .int v5_2), (4, .int v4_1), (0, .ref (zz_d Z 33)), (1, .ref (zz_d Z 18)), (2, .int p2), (3, .int p3)]) rfl rfl ?_
  refine zr_sub [5, 6, 7, 4, 3, 2, 1, 0] rfl (zX_Classes_operandsAgree_L29_w C p2 v4_1 v5_2 r3 s hr (fun v7_6 h => ?_) 10000 (1 : Int32) (0 : Int32) h)
  · skip
    refine zr_iload C dX0_operandsAgree_64 (q := 66) 5 rfl rfl ?_
    refine zr_if_ne (tgt := 109) (q := 69) C dX0_operandsAgree_66 h (by decide) rfl (fun h => ?_) (fun h => ?_)
    · skip
      refine zr_iconst C dX0_operandsAgree_109 (q := 110) (v := (1 : Int32)) (by decide) rfl ?_
      refine zr_goto (q := 114) C dX0_operandsAgree_110 (by decide) ?_
      exact zr_retZR dX0_operandsAgree_114 (Or.inr rfl) h hr
    · skip
      refine zr_aload_n C dX0_operandsAgree_69 (q := 70) rfl 1 rfl rfl ?_
      refine zr_get C dX0_operandsAgree_70 (q := 73) zX_gX0_37_18 rfl ?_
      refine zr_iload_n C dX0_operandsAgree_73 (q := 74) rfl 2 rfl rfl ?_
      obtain ⟨hin_74, h⟩ := zx_ck_so h
      refine zr_iald C dX0_operandsAgree_74 (q := 75) zX_a19 hin_74 rfl ?_
      obtain ⟨r7, hc_75, h⟩ := zx_b1_so h
      refine zr_csI (q := 78) C (As := [.int (s 19 (p2).toNatClampNeg)]) (rest := []) dX0_operandsAgree_75 (zX_Classes_isEven_met C.2.2.2.2.1 C.2.2.2.1 hc_75) zX_sX0_68 ⟨by decide, by decide⟩ rfl (Nat.le_of_ble_eq_true rfl) rfl rfl ?_
      refine zr_if_eq (tgt := 113) (q := 81) C dX0_operandsAgree_78 h (by decide) rfl (fun h => ?_) (fun h => ?_)
      · skip
        refine zr_iconst C dX0_operandsAgree_113 (q := 114) (v := (0 : Int32)) (by decide) rfl ?_
        exact zr_retZR dX0_operandsAgree_114 (Or.inl rfl) h hr
      · skip
        refine zr_aload_n C dX0_operandsAgree_81 (q := 82) rfl 0 rfl rfl ?_
        refine zr_aload_n C dX0_operandsAgree_82 (q := 83) rfl 1 rfl rfl ?_
        refine zr_iload C dX0_operandsAgree_83 (q := 85) 3 rfl rfl ?_
        refine zr_iload C dX0_operandsAgree_85 (q := 87) 4 rfl rfl ?_
        refine zr_iconst C dX0_operandsAgree_87 (q := 88) (v := (1 : Int32)) (by decide) rfl ?_
        refine zr_iadd C dX0_operandsAgree_88 (q := 89) rfl ?_
        obtain ⟨r8, hc_89, h⟩ := zx_b1_so h
        refine zr_cvI (q := 92) C (As := [.ref (zz_d Z 18), .int v4_1, .int (v5_2 + (1 : Int32))]) (k := 33) (rest := []) dX0_operandsAgree_89 (zX_Classes_together_met C.2.2.2.2.1 C.2.2.2.1 hc_89) zX_vX0_65 zX_o33 ⟨by decide, by decide⟩ rfl (Nat.le_of_ble_eq_true rfl) rfl rfl ?_
        refine zr_if_eq (tgt := 113) (q := 95) C dX0_operandsAgree_92 h (by decide) rfl (fun h => ?_) (fun h => ?_)
        · skip
          refine zr_iconst C dX0_operandsAgree_113 (q := 114) (v := (0 : Int32)) (by decide) rfl ?_
          exact zr_retZR dX0_operandsAgree_114 (Or.inl rfl) h hr
        · skip
          refine zr_aload_n C dX0_operandsAgree_95 (q := 96) rfl 0 rfl rfl ?_
          refine zr_aload_n C dX0_operandsAgree_96 (q := 97) rfl 1 rfl rfl ?_
          refine zr_iload C dX0_operandsAgree_97 (q := 99) 3 rfl rfl ?_
          refine zr_iconst C dX0_operandsAgree_99 (q := 100) (v := (1 : Int32)) (by decide) rfl ?_
          refine zr_iadd C dX0_operandsAgree_100 (q := 101) rfl ?_
          refine zr_iload C dX0_operandsAgree_101 (q := 103) 4 rfl rfl ?_
          obtain ⟨r9, hc_103, h⟩ := zx_b1_so h
          refine zr_cvI (q := 106) C (As := [.ref (zz_d Z 18), .int (v4_1 + (1 : Int32)), .int v5_2]) (k := 33) (rest := []) dX0_operandsAgree_103 (zX_Classes_together_met C.2.2.2.2.1 C.2.2.2.1 hc_103) zX_vX0_65 zX_o33 ⟨by decide, by decide⟩ rfl (Nat.le_of_ble_eq_true rfl) rfl rfl ?_
          refine zr_if_eq (tgt := 113) (q := 109) C dX0_operandsAgree_106 h (by decide) rfl (fun h => ?_) (fun h => ?_)
          · skip
            refine zr_iconst C dX0_operandsAgree_113 (q := 114) (v := (0 : Int32)) (by decide) rfl ?_
            exact zr_retZR dX0_operandsAgree_114 (Or.inl rfl) h hr
          · skip
            refine zr_iconst C dX0_operandsAgree_109 (q := 110) (v := (1 : Int32)) (by decide) rfl ?_
            refine zr_goto (q := 114) C dX0_operandsAgree_110 (by decide) ?_
            exact zr_retZR dX0_operandsAgree_114 (Or.inr rfl) h hr
theorem zX_Classes_operandsAgree_met {l : Launch} {D : va_G} {cz : ClassId × ClassId} {ad : Nat → Nat} (hS : zx_So zX_sd) (hi : zx_I zX_sd ad) {p2 p3 : Int32} {s : zx_S} {v : Int32} (h : zX_Classes_operandsAgree p2 p3 s = some v) : zx_MI zX_sd l D cz ad yX0_operandsAgree cX0_operandsAgree 9 .boolean 1 23 [.ref (ad 33), .ref (ad 18), .int p2, .int p3] s v s := zx_metI hS hi (by decide +kernel) rfl (Nat.le_of_ble_eq_true rfl) (fun Z e1 e2 e3 e4 C hr => by subst e1 e2 e3 e4; exact zX_Classes_operandsAgree_w C p2 p3 s hr h)
set_option maxRecDepth 100000 in
set_option maxHeartbeats 4000000 in
theorem zX_Classes_leastTogether_L7_w {Z : zx_Z} (C : zx_ok zX_sd Z cX0_leastTogether 4 RX0 2 51) {r : Int32} (v2 : Int32) (s : zx_S) {k47 : Int32 → Option Int32} (hr : zx_rI zX_sd Z cX0_leastTogether 4 .int r s) (h47 : ∀ (a0 : Int32), k47 a0 = some r → zW zX_sd Z 4 47 [(3, .int a0)] [] s) : ∀ (n : Nat) (v3 : Int32), zX_Classes_leastTogether_L7 v2 s k47 n v3 = some r → zW zX_sd Z 4 7 [(0, .ref (zz_d Z 33)), (1, .ref (zz_d Z 18)), (2, .int v2), (3, .int v3)] [] s := by
  intro n
  induction n with
  | zero => intro v3 h; unfold zX_Classes_leastTogether_L7 at h; cases h
  | succ n ih =>
    intro v3 h
    unfold zX_Classes_leastTogether_L7 at h
    refine zr_iload_n C dX0_leastTogether_7 (q := 8) rfl 3 rfl rfl ?_
    refine zr_iload_n C dX0_leastTogether_8 (q := 9) rfl 2 rfl rfl ?_
    refine zr_icmp_ge (tgt := 55) (q := 12) C dX0_leastTogether_9 h (by decide) rfl (fun h => ?_) (fun h => ?_)
    · skip
      refine zr_iload_n C dX0_leastTogether_55 (q := 56) rfl 2 rfl rfl ?_
      exact zr_retR dX0_leastTogether_56 h hr
    · skip
      refine zr_aload_n C dX0_leastTogether_12 (q := 13) rfl 0 rfl rfl ?_
      refine zr_get C dX0_leastTogether_13 (q := 16) zX_gX0_15_33 rfl ?_
      refine zr_iload_n C dX0_leastTogether_16 (q := 17) rfl 3 rfl rfl ?_
      obtain ⟨hin_17, h⟩ := zx_ck_so h
      refine zr_iald C dX0_leastTogether_17 (q := 18) zX_a35 hin_17 rfl ?_
      refine zr_iload_n C dX0_leastTogether_18 (q := 19) rfl 3 rfl rfl ?_
      refine zr_icmp_ne (tgt := 49) (q := 22) C dX0_leastTogether_19 h (by decide) rfl (fun h => ?_) (fun h => ?_)
      · skip
        refine zr_iinc C dX0_leastTogether_49 (q := 52) h (by decide) 3 rfl (by decide) (lw := fun v3_5 => [(3, .int v3_5), (0, .ref (zz_d Z 33)), (1, .ref (zz_d Z 18)), (2, .int v2)]) (fun _ => rfl) rfl (fun v3_5 h => ?_)
        refine zr_goto (q := 7) C dX0_leastTogether_52 (by decide) ?_
        exact zr_sub [1, 2, 3, 0] rfl (ih v3_5 h)
      · skip
        refine zr_aload_n C dX0_leastTogether_22 (q := 23) rfl 0 rfl rfl ?_
        refine zr_get C dX0_leastTogether_23 (q := 26) zX_gX0_9_33 rfl ?_
        refine zr_iload_n C dX0_leastTogether_26 (q := 27) rfl 3 rfl rfl ?_
        obtain ⟨hin_27, h⟩ := zx_ck_so h
        refine zr_iald C dX0_leastTogether_27 (q := 28) zX_a34 hin_27 rfl ?_
        refine zr_aload_n C dX0_leastTogether_28 (q := 29) rfl 0 rfl rfl ?_
        refine zr_get C dX0_leastTogether_29 (q := 32) zX_gX0_9_33 rfl ?_
        refine zr_iload_n C dX0_leastTogether_32 (q := 33) rfl 2 rfl rfl ?_
        obtain ⟨hin_33, h⟩ := zx_ck_so h
        refine zr_iald C dX0_leastTogether_33 (q := 34) zX_a34 hin_33 rfl ?_
        refine zr_icmp_ne (tgt := 49) (q := 37) C dX0_leastTogether_34 h (by decide) rfl (fun h => ?_) (fun h => ?_)
        · skip
          refine zr_iinc C dX0_leastTogether_49 (q := 52) h (by decide) 3 rfl (by decide) (lw := fun v3_4 => [(3, .int v3_4), (0, .ref (zz_d Z 33)), (1, .ref (zz_d Z 18)), (2, .int v2)]) (fun _ => rfl) rfl (fun v3_4 h => ?_)
          refine zr_goto (q := 7) C dX0_leastTogether_52 (by decide) ?_
          exact zr_sub [1, 2, 3, 0] rfl (ih v3_4 h)
        · skip
          refine zr_aload_n C dX0_leastTogether_37 (q := 38) rfl 0 rfl rfl ?_
          refine zr_aload_n C dX0_leastTogether_38 (q := 39) rfl 1 rfl rfl ?_
          refine zr_iload_n C dX0_leastTogether_39 (q := 40) rfl 3 rfl rfl ?_
          refine zr_iload_n C dX0_leastTogether_40 (q := 41) rfl 2 rfl rfl ?_
          obtain ⟨r2, hc_41, h⟩ := zx_b1_so h
          refine zr_cvI (q := 44) C (As := [.ref (zz_d Z 18), .int v3, .int v2]) (k := 33) (rest := []) dX0_leastTogether_41 (zX_Classes_operandsAgree_met C.2.2.2.2.1 C.2.2.2.1 hc_41) zX_vX0_55 zX_o33 ⟨by decide, by decide⟩ rfl (Nat.le_of_ble_eq_true rfl) rfl rfl ?_
          refine zr_if_eq (tgt := 49) (q := 47) C dX0_leastTogether_44 h (by decide) rfl (fun h => ?_) (fun h => ?_)
          · skip
            refine zr_iinc C dX0_leastTogether_49 (q := 52) h (by decide) 3 rfl (by decide) (lw := fun v3_3 => [(3, .int v3_3), (0, .ref (zz_d Z 33)), (1, .ref (zz_d Z 18)), (2, .int v2)]) (fun _ => rfl) rfl (fun v3_3 h => ?_)
            refine zr_goto (q := 7) C dX0_leastTogether_52 (by decide) ?_
            exact zr_sub [1, 2, 3, 0] rfl (ih v3_3 h)
          · skip
            exact zr_sub [3] rfl (h47 v3 h)
set_option maxRecDepth 100000 in
set_option maxHeartbeats 4000000 in
theorem zX_Classes_leastTogether_w {Z : zx_Z} (C : zx_ok zX_sd Z cX0_leastTogether 4 RX0 2 51) {r : Int32} (p2 : Int32) (s : zx_S) (hr : zx_rI zX_sd Z cX0_leastTogether 4 .int r s) (h : zX_Classes_leastTogether p2 s = some r) : zW zX_sd Z 4 0 [(0, .ref (zz_d Z 33)), (1, .ref (zz_d Z 18)), (2, .int p2)] [] s := by
  unfold zX_Classes_leastTogether at h
  refine zr_aload_n C dX0_leastTogether_0 (q := 1) rfl 0 rfl rfl ?_
  refine zr_get C dX0_leastTogether_1 (q := 4) zX_gX0_9_33 rfl ?_
  refine zr_iload_n C dX0_leastTogether_4 (q := 5) rfl 2 rfl rfl ?_
  obtain ⟨hin_5, h⟩ := zx_ck_so h
  refine zr_iald C dX0_leastTogether_5 (q := 6) zX_a34 hin_5 rfl ?_
  refine zr_top h (fun v3_1 h => ?_)
  refine zr_istore_n C dX0_leastTogether_6 (q := 7) rfl (by decide) (lv' := [(3, .int v3_1), (0, .ref (zz_d Z 33)), (1, .ref (zz_d Z 18)), (2, .int p2)]) rfl rfl ?_
  refine zr_sub [1, 2, 3, 0] rfl (zX_Classes_leastTogether_L7_w C p2 s hr (fun v3_6 h => ?_) 10000 v3_1 h)
  · skip
    refine zr_iload_n C dX0_leastTogether_47 (q := 48) rfl 0 rfl rfl ?_
    exact zr_retR dX0_leastTogether_48 h hr
theorem zX_Classes_leastTogether_met {l : Launch} {D : va_G} {cz : ClassId × ClassId} {ad : Nat → Nat} (hS : zx_So zX_sd) (hi : zx_I zX_sd ad) {p2 : Int32} {s : zx_S} {v : Int32} (h : zX_Classes_leastTogether p2 s = some v) : zx_MI zX_sd l D cz ad yX0_leastTogether cX0_leastTogether 4 .int 2 51 [.ref (ad 33), .ref (ad 18), .int p2] s v s := zx_metI hS hi (by decide +kernel) rfl (Nat.le_of_ble_eq_true rfl) (fun Z e1 e2 e3 e4 C hr => by subst e1 e2 e3 e4; exact zX_Classes_leastTogether_w C p2 s hr h)
set_option maxRecDepth 100000 in
set_option maxHeartbeats 4000000 in
theorem zX_Classes_partFiner_L4_w {Z : zx_Z} (C : zx_ok zX_sd Z cX0_partFiner 4 RX0 3 74) {r : Int32 × zx_S} {k55 : Int32 → zx_S → Option (Int32 × zx_S)} (hr : zx_rI zX_sd Z cX0_partFiner 4 .boolean r.1 r.2) (h55 : ∀ (a0 : Int32) (s1 : zx_S), k55 a0 s1 = some r → zW zX_sd Z 4 55 [(0, .ref (zz_d Z 33)), (1, .ref (zz_d Z 18)), (2, .int a0)] [] s1) : ∀ (n : Nat) (v2 : Int32) (v3 : Int32) (s : zx_S), zX_Classes_partFiner_L4 k55 n v2 v3 s = some r → zW zX_sd Z 4 4 [(0, .ref (zz_d Z 33)), (1, .ref (zz_d Z 18)), (2, .int v2), (3, .int v3)] [] s := by
  intro n
  induction n with
  | zero => intro v2 v3 s h; unfold zX_Classes_partFiner_L4 at h; cases h
  | succ n ih =>
    intro v2 v3 s h
    unfold zX_Classes_partFiner_L4 at h
    refine zr_iload_n C dX0_partFiner_4 (q := 5) rfl 3 rfl rfl ?_
    refine zr_aload_n C dX0_partFiner_5 (q := 6) rfl 1 rfl rfl ?_
    refine zr_get C dX0_partFiner_6 (q := 9) zX_gX0_18_18 rfl ?_
    refine zr_icmp_ge (tgt := 55) (q := 12) C dX0_partFiner_9 h (by decide) rfl (fun h => ?_) (fun h => ?_)
    · skip
      exact zr_sub [0, 1, 2] rfl (h55 v2 s h)
    · skip
      refine zr_aload_n C dX0_partFiner_12 (q := 13) rfl 0 rfl rfl ?_
      refine zr_get C dX0_partFiner_13 (q := 16) zX_gX0_15_33 rfl ?_
      refine zr_iload_n C dX0_partFiner_16 (q := 17) rfl 3 rfl rfl ?_
      refine zr_aload_n C dX0_partFiner_17 (q := 18) rfl 0 rfl rfl ?_
      refine zr_aload_n C dX0_partFiner_18 (q := 19) rfl 1 rfl rfl ?_
      refine zr_iload_n C dX0_partFiner_19 (q := 20) rfl 3 rfl rfl ?_
      obtain ⟨r1, hc_20, h⟩ := zx_b1_so h
      refine zr_cvI (q := 23) C (As := [.ref (zz_d Z 18), .int v3]) (k := 33) (rest := [.int v3, .ref (zz_d Z 35)]) dX0_partFiner_20 (zX_Classes_leastTogether_met C.2.2.2.2.1 C.2.2.2.1 hc_20) zX_vX0_46 zX_o33 ⟨by decide, by decide⟩ rfl (Nat.le_of_ble_eq_true rfl) rfl rfl ?_
      obtain ⟨hin_23, h⟩ := zx_ck_so h
      refine zr_iast C dX0_partFiner_23 (q := 24) zX_a35 hin_23 rfl ?_
      refine zr_ls h (fun s2 h => ?_)
      refine zr_iload_n C dX0_partFiner_24 (q := 25) rfl 2 rfl rfl ?_
      refine zr_if_ne (tgt := 43) (q := 28) C dX0_partFiner_25 h (by decide) rfl (fun h => ?_) (fun h => ?_)
      · skip
        refine zr_iconst C dX0_partFiner_43 (q := 44) (v := (1 : Int32)) (by decide) rfl ?_
        refine zr_goto (q := 48) C dX0_partFiner_44 (by decide) ?_
        refine zr_istore_n C dX0_partFiner_48 (q := 49) rfl (by decide) (lv' := [(2, .int (1 : Int32)), (0, .ref (zz_d Z 33)), (1, .ref (zz_d Z 18)), (3, .int v3)]) rfl rfl ?_
        refine zr_iinc C dX0_partFiner_49 (q := 52) h (by decide) 3 rfl (by decide) (lw := fun v3_5 => [(3, .int v3_5), (2, .int (1 : Int32)), (0, .ref (zz_d Z 33)), (1, .ref (zz_d Z 18))]) (fun _ => rfl) rfl (fun v3_5 h => ?_)
        refine zr_goto (q := 4) C dX0_partFiner_52 (by decide) ?_
        exact zr_sub [2, 3, 1, 0] rfl (ih (1 : Int32) v3_5 s2 h)
      · skip
        refine zr_aload_n C dX0_partFiner_28 (q := 29) rfl 0 rfl rfl ?_
        refine zr_get C dX0_partFiner_29 (q := 32) zX_gX0_15_33 rfl ?_
        refine zr_iload_n C dX0_partFiner_32 (q := 33) rfl 3 rfl rfl ?_
        obtain ⟨hin_33, h⟩ := zx_ck_so h
        refine zr_iald C dX0_partFiner_33 (q := 34) zX_a35 hin_33 rfl ?_
        refine zr_aload_n C dX0_partFiner_34 (q := 35) rfl 0 rfl rfl ?_
        refine zr_get C dX0_partFiner_35 (q := 38) zX_gX0_9_33 rfl ?_
        refine zr_iload_n C dX0_partFiner_38 (q := 39) rfl 3 rfl rfl ?_
        obtain ⟨hin_39, h⟩ := zx_ck_so h
        refine zr_iald C dX0_partFiner_39 (q := 40) zX_a34 hin_39 rfl ?_
        refine zr_icmp_eq (tgt := 47) (q := 43) C dX0_partFiner_40 h (by decide) rfl (fun h => ?_) (fun h => ?_)
        · skip
          refine zr_iconst C dX0_partFiner_47 (q := 48) (v := (0 : Int32)) (by decide) rfl ?_
          refine zr_istore_n C dX0_partFiner_48 (q := 49) rfl (by decide) (lv' := [(2, .int (0 : Int32)), (0, .ref (zz_d Z 33)), (1, .ref (zz_d Z 18)), (3, .int v3)]) rfl rfl ?_
          refine zr_iinc C dX0_partFiner_49 (q := 52) h (by decide) 3 rfl (by decide) (lw := fun v3_4 => [(3, .int v3_4), (2, .int (0 : Int32)), (0, .ref (zz_d Z 33)), (1, .ref (zz_d Z 18))]) (fun _ => rfl) rfl (fun v3_4 h => ?_)
          refine zr_goto (q := 4) C dX0_partFiner_52 (by decide) ?_
          exact zr_sub [2, 3, 1, 0] rfl (ih (0 : Int32) v3_4 s2 h)
        · skip
          refine zr_iconst C dX0_partFiner_43 (q := 44) (v := (1 : Int32)) (by decide) rfl ?_
          refine zr_goto (q := 48) C dX0_partFiner_44 (by decide) ?_
          refine zr_istore_n C dX0_partFiner_48 (q := 49) rfl (by decide) (lv' := [(2, .int (1 : Int32)), (0, .ref (zz_d Z 33)), (1, .ref (zz_d Z 18)), (3, .int v3)]) rfl rfl ?_
          refine zr_iinc C dX0_partFiner_49 (q := 52) h (by decide) 3 rfl (by decide) (lw := fun v3_3 => [(3, .int v3_3), (2, .int (1 : Int32)), (0, .ref (zz_d Z 33)), (1, .ref (zz_d Z 18))]) (fun _ => rfl) rfl (fun v3_3 h => ?_)
          refine zr_goto (q := 4) C dX0_partFiner_52 (by decide) ?_
          exact zr_sub [2, 3, 1, 0] rfl (ih (1 : Int32) v3_3 s2 h)
set_option maxRecDepth 100000 in
set_option maxHeartbeats 4000000 in
theorem zX_Classes_partFiner_w {Z : zx_Z} (C : zx_ok zX_sd Z cX0_partFiner 4 RX0 3 74) {r : Int32 × zx_S} (s : zx_S) (hr : zx_rI zX_sd Z cX0_partFiner 4 .boolean r.1 r.2) (h : zX_Classes_partFiner s = some r) : zW zX_sd Z 4 0 [(0, .ref (zz_d Z 33)), (1, .ref (zz_d Z 18))] [] s := by
  unfold zX_Classes_partFiner at h
  refine zr_iconst C dX0_partFiner_0 (q := 1) (v := (0 : Int32)) (by decide) rfl ?_
  refine zr_istore_n C dX0_partFiner_1 (q := 2) rfl (by decide) (lv' := [(2, .int (0 : Int32)), (0, .ref (zz_d Z 33)), (1, .ref (zz_d Z 18))]) rfl rfl ?_
  refine zr_iconst C dX0_partFiner_2 (q := 3) (v := (0 : Int32)) (by decide) rfl ?_
  refine zr_istore_n C dX0_partFiner_3 (q := 4) rfl (by decide) (lv' := [(3, .int (0 : Int32)), (2, .int (0 : Int32)), (0, .ref (zz_d Z 33)), (1, .ref (zz_d Z 18))]) rfl rfl ?_
  refine zr_sub [2, 3, 1, 0] rfl (zX_Classes_partFiner_L4_w C hr (fun v2_6 s7 h => ?_) 10000 (0 : Int32) (0 : Int32) s h)
  · skip
    refine zr_aload_n C dX0_partFiner_55 (q := 56) rfl 0 rfl rfl ?_
    refine zr_get C dX0_partFiner_56 (q := 59) zX_gX0_15_33 rfl ?_
    refine zr_iconst C dX0_partFiner_59 (q := 60) (v := (0 : Int32)) (by decide) rfl ?_
    refine zr_aload_n C dX0_partFiner_60 (q := 61) rfl 0 rfl rfl ?_
    refine zr_get C dX0_partFiner_61 (q := 64) zX_gX0_9_33 rfl ?_
    refine zr_iconst C dX0_partFiner_64 (q := 65) (v := (0 : Int32)) (by decide) rfl ?_
    refine zr_aload_n C dX0_partFiner_65 (q := 66) rfl 1 rfl rfl ?_
    refine zr_get C dX0_partFiner_66 (q := 69) zX_gX0_18_18 rfl ?_
    refine zr_copy (q := 72) C dX0_partFiner_69 h zX_a35 zX_a34 zw_634 zw_466 zw_465 zw_74 (by decide) (by decide) rfl (fun s8 h => ?_)
    refine zr_iload_n C dX0_partFiner_72 (q := 73) rfl 2 rfl rfl ?_
    obtain ⟨hb9, h⟩ := zx_zr_so h
    exact zr_retZI dX0_partFiner_73 hb9 h hr
theorem zX_Classes_partFiner_met {l : Launch} {D : va_G} {cz : ClassId × ClassId} {ad : Nat → Nat} (hS : zx_So zX_sd) (hi : zx_I zX_sd ad) {s : zx_S} {v : Int32} {s1 : zx_S} (h : zX_Classes_partFiner s = some (v, s1)) : zx_MI zX_sd l D cz ad yX0_partFiner cX0_partFiner 4 .boolean 3 74 [.ref (ad 33), .ref (ad 18)] s v s1 := zx_metI hS hi (by decide +kernel) rfl (Nat.le_of_ble_eq_true rfl) (fun Z e1 e2 e3 e4 C hr => by subst e1 e2 e3 e4; exact zX_Classes_partFiner_w (r := (v, s1)) C s hr h)
