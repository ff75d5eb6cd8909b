set_option maxRecDepth 100000 in
set_option maxHeartbeats 4000000 in
theorem zM_ValueBenchModel_classes_L21_w {Z : zx_Z} (C : zx_ok zM_sd Z cX11_classes 4 RX11 2 44) {r : zx_S} (v1 : Int32) {k47 : zx_S → Option zx_S} (hr : zx_rV zM_sd Z cX11_classes 4 r) (h47 : ∀ (s1 : zx_S), k47 s1 = some r → zW zM_sd Z 4 47 [(0, .ref (zz_d Z 0)), (1, .int v1)] [] s1) : ∀ (n : Nat) (v2 : Int32) (s : zx_S), zM_ValueBenchModel_classes_L21 v1 k47 n v2 s = some r → zW zM_sd Z 4 21 [(0, .ref (zz_d Z 0)), (1, .int v1), (2, .int v2)] [] s := by
  intro n
  induction n with
  | zero => intro v2 s h; unfold zM_ValueBenchModel_classes_L21 at h; cases h
  | succ n ih =>
    intro v2 s h
    unfold zM_ValueBenchModel_classes_L21 at h
    refine zr_iload_n C dX11_classes_21 (q := 22) rfl 2 rfl rfl ?_
    refine zr_if_lt (tgt := 47) (q := 25) C dX11_classes_22 h (by decide) rfl (fun h => ?_) (fun h => ?_)
    · skip
      exact zr_sub [0, 1] rfl (h47 s h)
    · skip
      refine zr_aload_n C dX11_classes_25 (q := 26) rfl 0 rfl rfl ?_
      refine zr_iload_n C dX11_classes_26 (q := 27) rfl 2 rfl rfl ?_
      refine zr_iload_n C dX11_classes_27 (q := 28) rfl 1 rfl rfl ?_
      obtain ⟨r3, hc_28, h⟩ := zx_b1_so h
      refine zr_cvI (q := 31) C (As := [.int v2, .int v1]) (k := 0) (rest := []) dX11_classes_28 (zM_ValueBenchModel_isOneSort_met C.2.2.2.2.1 C.2.2.2.1 hc_28) zM_vX11_173 zM_o0 ⟨by decide, by decide⟩ rfl (Nat.le_of_ble_eq_true rfl) rfl rfl ?_
      refine zr_if_eq (tgt := 41) (q := 34) C dX11_classes_31 h (by decide) rfl (fun h => ?_) (fun h => ?_)
      · skip
        refine zr_iinc C dX11_classes_41 (q := 44) h (by decide) 2 rfl (by decide) (lw := fun v2_6 => [(2, .int v2_6), (0, .ref (zz_d Z 0)), (1, .int v1)]) (fun _ => rfl) rfl (fun v2_6 h => ?_)
        refine zr_goto (q := 21) C dX11_classes_44 (by decide) ?_
        exact zr_sub [1, 2, 0] rfl (ih v2_6 s h)
      · skip
        refine zr_aload_n C dX11_classes_34 (q := 35) rfl 0 rfl rfl ?_
        refine zr_get C dX11_classes_35 (q := 38) zM_gX11_92_0 rfl ?_
        refine zr_iload_n C dX11_classes_38 (q := 39) rfl 1 rfl rfl ?_
        refine zr_iload_n C dX11_classes_39 (q := 40) rfl 2 rfl rfl ?_
        obtain ⟨hin_40, h⟩ := zx_ck_so h
        refine zr_iast C dX11_classes_40 (q := 41) zM_a28 hin_40 rfl ?_
        refine zr_ls h (fun s4 h => ?_)
        refine zr_iinc C dX11_classes_41 (q := 44) h (by decide) 2 rfl (by decide) (lw := fun v2_5 => [(2, .int v2_5), (0, .ref (zz_d Z 0)), (1, .int v1)]) (fun _ => rfl) rfl (fun v2_5 h => ?_)
        refine zr_goto (q := 21) C dX11_classes_44 (by decide) ?_
        exact zr_sub [1, 2, 0] rfl (ih v2_5 s4 h)
set_option maxRecDepth 100000 in
set_option maxHeartbeats 4000000 in
theorem zM_ValueBenchModel_classes_L2_w {Z : zx_Z} (C : zx_ok zM_sd Z cX11_classes 4 RX11 2 44) {r : zx_S} {k53 : zx_S → Option zx_S} (hr : zx_rV zM_sd Z cX11_classes 4 r) (h53 : ∀ (s1 : zx_S), k53 s1 = some r → zW zM_sd Z 4 53 [(0, .ref (zz_d Z 0))] [] s1) : ∀ (n : Nat) (v1 : Int32) (s : zx_S), zM_ValueBenchModel_classes_L2 k53 n v1 s = some r → zW zM_sd Z 4 2 [(0, .ref (zz_d Z 0)), (1, .int v1)] [] s := by
  intro n
  induction n with
  | zero => intro v1 s h; unfold zM_ValueBenchModel_classes_L2 at h; cases h
  | succ n ih =>
    intro v1 s h
    unfold zM_ValueBenchModel_classes_L2 at h
    refine zr_iload_n C dX11_classes_2 (q := 3) rfl 1 rfl rfl ?_
    refine zr_aload_n C dX11_classes_3 (q := 4) rfl 0 rfl rfl ?_
    refine zr_get C dX11_classes_4 (q := 7) zM_gX11_155_0 rfl ?_
    refine zr_icmp_ge (tgt := 53) (q := 10) C dX11_classes_7 h (by decide) rfl (fun h => ?_) (fun h => ?_)
    · skip
      exact zr_sub [0] rfl (h53 s h)
    · skip
      refine zr_aload_n C dX11_classes_10 (q := 11) rfl 0 rfl rfl ?_
      refine zr_get C dX11_classes_11 (q := 14) zM_gX11_92_0 rfl ?_
      refine zr_iload_n C dX11_classes_14 (q := 15) rfl 1 rfl rfl ?_
      refine zr_iload_n C dX11_classes_15 (q := 16) rfl 1 rfl rfl ?_
      obtain ⟨hin_16, h⟩ := zx_ck_so h
      refine zr_iast C dX11_classes_16 (q := 17) zM_a28 hin_16 rfl ?_
      refine zr_ls h (fun s1 h => ?_)
      refine zr_iload_n C dX11_classes_17 (q := 18) rfl 1 rfl rfl ?_
      refine zr_iconst C dX11_classes_18 (q := 19) (v := (1 : Int32)) (by decide) rfl ?_
      refine zr_isub C dX11_classes_19 (q := 20) rfl ?_
      refine zr_top h (fun v2_2 h => ?_)
      refine zr_istore_n C dX11_classes_20 (q := 21) rfl (by decide) (lv' := [(2, .int v2_2), (0, .ref (zz_d Z 0)), (1, .int v1)]) rfl rfl ?_
      refine zr_sub [1, 2, 0] rfl (zM_ValueBenchModel_classes_L21_w C v1 hr (fun s7 h => ?_) 10000 v2_2 s1 h)
      · skip
        refine zr_iinc C dX11_classes_47 (q := 50) h (by decide) 1 rfl (by decide) (lw := fun v1_8 => [(1, .int v1_8), (0, .ref (zz_d Z 0))]) (fun _ => rfl) rfl (fun v1_8 h => ?_)
        refine zr_goto (q := 2) C dX11_classes_50 (by decide) ?_
        exact zr_sub [1, 0] rfl (ih v1_8 s7 h)
set_option maxRecDepth 100000 in
set_option maxHeartbeats 4000000 in
theorem zM_ValueBenchModel_classes_L82_w {Z : zx_Z} (C : zx_ok zM_sd Z cX11_classes 4 RX11 2 44) {r : zx_S} (v1 v2 : Int32) {k123 : zx_S → Option zx_S} (hr : zx_rV zM_sd Z cX11_classes 4 r) (h123 : ∀ (s1 : zx_S), k123 s1 = some r → zW zM_sd Z 4 123 [(0, .ref (zz_d Z 0)), (1, .int v1), (2, .int v2)] [] s1) : ∀ (n : Nat) (v3 : Int32) (s : zx_S), zM_ValueBenchModel_classes_L82 v1 v2 k123 n v3 s = some r → zW zM_sd Z 4 82 [(0, .ref (zz_d Z 0)), (1, .int v1), (2, .int v2), (3, .int v3)] [] s := by
  intro n
  induction n with
  | zero => intro v3 s h; unfold zM_ValueBenchModel_classes_L82 at h; cases h
  | succ n ih =>
    intro v3 s h
    unfold zM_ValueBenchModel_classes_L82 at h
    refine zr_iload_n C dX11_classes_82 (q := 83) rfl 3 rfl rfl ?_
    refine zr_if_lt (tgt := 123) (q := 86) C dX11_classes_83 h (by decide) rfl (fun h => ?_) (fun h => ?_)
    · skip
      exact zr_sub [0, 1, 2] rfl (h123 s h)
    · skip
      refine zr_aload_n C dX11_classes_86 (q := 87) rfl 0 rfl rfl ?_
      refine zr_get C dX11_classes_87 (q := 90) zM_gX11_92_0 rfl ?_
      refine zr_iload_n C dX11_classes_90 (q := 91) rfl 3 rfl rfl ?_
      obtain ⟨hin_91, h⟩ := zx_ck_so h
      refine zr_iald C dX11_classes_91 (q := 92) zM_a28 hin_91 rfl ?_
      refine zr_aload_n C dX11_classes_92 (q := 93) rfl 0 rfl rfl ?_
      refine zr_get C dX11_classes_93 (q := 96) zM_gX11_92_0 rfl ?_
      refine zr_iload_n C dX11_classes_96 (q := 97) rfl 2 rfl rfl ?_
      obtain ⟨hin_97, h⟩ := zx_ck_so h
      refine zr_iald C dX11_classes_97 (q := 98) zM_a28 hin_97 rfl ?_
      refine zr_icmp_ne (tgt := 117) (q := 101) C dX11_classes_98 h (by decide) rfl (fun h => ?_) (fun h => ?_)
      · skip
        refine zr_iinc C dX11_classes_117 (q := 120) h (by decide) 3 rfl (by decide) (lw := fun v3_16 => [(3, .int v3_16), (0, .ref (zz_d Z 0)), (1, .int v1), (2, .int v2)]) (fun _ => rfl) rfl (fun v3_16 h => ?_)
        refine zr_goto (q := 82) C dX11_classes_120 (by decide) ?_
        exact zr_sub [1, 2, 3, 0] rfl (ih v3_16 s h)
      · skip
        refine zr_aload_n C dX11_classes_101 (q := 102) rfl 0 rfl rfl ?_
        refine zr_iload_n C dX11_classes_102 (q := 103) rfl 3 rfl rfl ?_
        refine zr_iload_n C dX11_classes_103 (q := 104) rfl 2 rfl rfl ?_
        obtain ⟨r12, hc_104, h⟩ := zx_b1_so h
        refine zr_cvI (q := 107) C (As := [.int v3, .int v2]) (k := 0) (rest := []) dX11_classes_104 (zM_ValueBenchModel_hangTogether_met C.2.2.2.2.1 C.2.2.2.1 hc_104) zM_vX11_176 zM_o0 ⟨by decide, by decide⟩ rfl (Nat.le_of_ble_eq_true rfl) rfl rfl ?_
        refine zr_if_eq (tgt := 117) (q := 110) C dX11_classes_107 h (by decide) rfl (fun h => ?_) (fun h => ?_)
        · skip
          refine zr_iinc C dX11_classes_117 (q := 120) h (by decide) 3 rfl (by decide) (lw := fun v3_15 => [(3, .int v3_15), (0, .ref (zz_d Z 0)), (1, .int v1), (2, .int v2)]) (fun _ => rfl) rfl (fun v3_15 h => ?_)
          refine zr_goto (q := 82) C dX11_classes_120 (by decide) ?_
          exact zr_sub [1, 2, 3, 0] rfl (ih v3_15 s h)
        · skip
          refine zr_aload_n C dX11_classes_110 (q := 111) rfl 0 rfl rfl ?_
          refine zr_get C dX11_classes_111 (q := 114) zM_gX11_95_0 rfl ?_
          refine zr_iload_n C dX11_classes_114 (q := 115) rfl 2 rfl rfl ?_
          refine zr_iload_n C dX11_classes_115 (q := 116) rfl 3 rfl rfl ?_
          obtain ⟨hin_116, h⟩ := zx_ck_so h
          refine zr_iast C dX11_classes_116 (q := 117) zM_a29 hin_116 rfl ?_
          refine zr_ls h (fun s13 h => ?_)
          refine zr_iinc C dX11_classes_117 (q := 120) h (by decide) 3 rfl (by decide) (lw := fun v3_14 => [(3, .int v3_14), (0, .ref (zz_d Z 0)), (1, .int v1), (2, .int v2)]) (fun _ => rfl) rfl (fun v3_14 h => ?_)
          refine zr_goto (q := 82) C dX11_classes_120 (by decide) ?_
          exact zr_sub [1, 2, 3, 0] rfl (ih v3_14 s13 h)
set_option maxRecDepth 100000 in
set_option maxHeartbeats 4000000 in
theorem zM_ValueBenchModel_classes_L63_w {Z : zx_Z} (C : zx_ok zM_sd Z cX11_classes 4 RX11 2 44) {r : zx_S} (v1 : Int32) {k129 : zx_S → Option zx_S} (hr : zx_rV zM_sd Z cX11_classes 4 r) (h129 : ∀ (s1 : zx_S), k129 s1 = some r → zW zM_sd Z 4 129 [(0, .ref (zz_d Z 0)), (1, .int v1)] [] s1) : ∀ (n : Nat) (v2 : Int32) (s : zx_S), zM_ValueBenchModel_classes_L63 v1 k129 n v2 s = some r → zW zM_sd Z 4 63 [(0, .ref (zz_d Z 0)), (1, .int v1), (2, .int v2)] [] s := by
  intro n
  induction n with
  | zero => intro v2 s h; unfold zM_ValueBenchModel_classes_L63 at h; cases h
  | succ n ih =>
    intro v2 s h
    unfold zM_ValueBenchModel_classes_L63 at h
    refine zr_iload_n C dX11_classes_63 (q := 64) rfl 2 rfl rfl ?_
    refine zr_aload_n C dX11_classes_64 (q := 65) rfl 0 rfl rfl ?_
    refine zr_get C dX11_classes_65 (q := 68) zM_gX11_155_0 rfl ?_
    refine zr_icmp_ge (tgt := 129) (q := 71) C dX11_classes_68 h (by decide) rfl (fun h => ?_) (fun h => ?_)
    · skip
      exact zr_sub [0, 1] rfl (h129 s h)
    · skip
      refine zr_aload_n C dX11_classes_71 (q := 72) rfl 0 rfl rfl ?_
      refine zr_get C dX11_classes_72 (q := 75) zM_gX11_95_0 rfl ?_
      refine zr_iload_n C dX11_classes_75 (q := 76) rfl 2 rfl rfl ?_
      refine zr_iload_n C dX11_classes_76 (q := 77) rfl 2 rfl rfl ?_
      obtain ⟨hin_77, h⟩ := zx_ck_so h
      refine zr_iast C dX11_classes_77 (q := 78) zM_a29 hin_77 rfl ?_
      refine zr_ls h (fun s10 h => ?_)
      refine zr_iload_n C dX11_classes_78 (q := 79) rfl 2 rfl rfl ?_
      refine zr_iconst C dX11_classes_79 (q := 80) (v := (1 : Int32)) (by decide) rfl ?_
      refine zr_isub C dX11_classes_80 (q := 81) rfl ?_
      refine zr_top h (fun v3_11 h => ?_)
      refine zr_istore_n C dX11_classes_81 (q := 82) rfl (by decide) (lv' := [(3, .int v3_11), (0, .ref (zz_d Z 0)), (1, .int v1), (2, .int v2)]) rfl rfl ?_
      refine zr_sub [1, 2, 3, 0] rfl (zM_ValueBenchModel_classes_L82_w C v1 v2 hr (fun s17 h => ?_) 10000 v3_11 s10 h)
      · skip
        refine zr_iinc C dX11_classes_123 (q := 126) h (by decide) 2 rfl (by decide) (lw := fun v2_18 => [(2, .int v2_18), (0, .ref (zz_d Z 0)), (1, .int v1)]) (fun _ => rfl) rfl (fun v2_18 h => ?_)
        refine zr_goto (q := 63) C dX11_classes_126 (by decide) ?_
        exact zr_sub [1, 2, 0] rfl (ih v2_18 s17 h)
set_option maxRecDepth 100000 in
set_option maxHeartbeats 4000000 in
theorem zM_ValueBenchModel_classes_J163_w {Z : zx_Z} (C : zx_ok zM_sd Z cX11_classes 4 RX11 2 44) {r : zx_S} (v2 t0 : Int32) (s : zx_S) {k131 : Int32 → Int32 → zx_S → Option zx_S} (hr : zx_rV zM_sd Z cX11_classes 4 r) (h131 : ∀ (a0 : Int32) (a1 : Int32) (s1 : zx_S), k131 a0 a1 s1 = some r → zW zM_sd Z 4 131 [(0, .ref (zz_d Z 0)), (1, .int a0), (2, .int a1)] [] s1) (h : zM_ValueBenchModel_classes_J163 k131 v2 t0 s = some r) : zW zM_sd Z 4 163 [(0, .ref (zz_d Z 0)), (2, .int v2)] [.int t0] s := by
  unfold zM_ValueBenchModel_classes_J163 at h
  refine zr_istore_n C dX11_classes_163 (q := 164) rfl (by decide) (lv' := [(1, .int t0), (0, .ref (zz_d Z 0)), (2, .int v2)]) rfl rfl ?_
  refine zr_aload_n C dX11_classes_164 (q := 165) rfl 1 rfl rfl ?_
  refine zr_get C dX11_classes_165 (q := 168) zM_gX11_92_0 rfl ?_
  refine zr_iload_n C dX11_classes_168 (q := 169) rfl 2 rfl rfl ?_
  refine zr_aload_n C dX11_classes_169 (q := 170) rfl 1 rfl rfl ?_
  refine zr_get C dX11_classes_170 (q := 173) zM_gX11_95_0 rfl ?_
  refine zr_iload_n C dX11_classes_173 (q := 174) rfl 2 rfl rfl ?_
  obtain ⟨hin_174, h⟩ := zx_ck_so h
  refine zr_iald C dX11_classes_174 (q := 175) zM_a29 hin_174 rfl ?_
  refine zr_top h (fun x20 h => ?_)
  obtain ⟨hin_175, h⟩ := zx_ck_so h
  refine zr_iast C dX11_classes_175 (q := 176) zM_a28 hin_175 rfl ?_
  refine zr_ls h (fun s21 h => ?_)
  refine zr_iinc C dX11_classes_176 (q := 179) h (by decide) 2 rfl (by decide) (lw := fun v2_22 => [(2, .int v2_22), (1, .int t0), (0, .ref (zz_d Z 0))]) (fun _ => rfl) rfl (fun v2_22 h => ?_)
  refine zr_goto (q := 131) C dX11_classes_179 (by decide) ?_
  exact zr_sub [2, 1, 0] rfl (h131 t0 v2_22 s21 h)
set_option maxRecDepth 100000 in
set_option maxHeartbeats 4000000 in
theorem zM_ValueBenchModel_classes_L131_w {Z : zx_Z} (C : zx_ok zM_sd Z cX11_classes 4 RX11 2 44) {r : zx_S} {k182 : Int32 → zx_S → Option zx_S} (hr : zx_rV zM_sd Z cX11_classes 4 r) (h182 : ∀ (a0 : Int32) (s1 : zx_S), k182 a0 s1 = some r → zW zM_sd Z 4 182 [(0, .ref (zz_d Z 0)), (1, .int a0)] [] s1) : ∀ (n : Nat) (v1 : Int32) (v2 : Int32) (s : zx_S), zM_ValueBenchModel_classes_L131 k182 n v1 v2 s = some r → zW zM_sd Z 4 131 [(0, .ref (zz_d Z 0)), (1, .int v1), (2, .int v2)] [] s := by
  intro n
  induction n with
  | zero => intro v1 v2 s h; unfold zM_ValueBenchModel_classes_L131 at h; cases h
  | succ n ih =>
    intro v1 v2 s h
    unfold zM_ValueBenchModel_classes_L131 at h
    refine zr_iload_n C dX11_classes_131 (q := 132) rfl 2 rfl rfl ?_
    refine zr_aload_n C dX11_classes_132 (q := 133) rfl 0 rfl rfl ?_
    refine zr_get C dX11_classes_133 (q := 136) zM_gX11_155_0 rfl ?_
    refine zr_icmp_ge (tgt := 182) (q := 139) C dX11_classes_136 h (by decide) rfl (fun h => ?_) (fun h => ?_)
    · skip
      exact zr_sub [0, 1] rfl (h182 v1 s h)
    · skip
      refine zr_iload_n C dX11_classes_139 (q := 140) rfl 1 rfl rfl ?_
      refine zr_if_ne (tgt := 158) (q := 143) C dX11_classes_140 h (by decide) rfl (fun h => ?_) (fun h => ?_)
      · skip
        refine zr_iconst C dX11_classes_158 (q := 159) (v := (1 : Int32)) (by decide) rfl ?_
        refine zr_goto (q := 163) C dX11_classes_159 (by decide) ?_
        exact zr_sub [0, 2] rfl (zM_ValueBenchModel_classes_J163_w C v2 (1 : Int32) s hr (ih) h)
      · skip
        refine zr_aload_n C dX11_classes_143 (q := 144) rfl 0 rfl rfl ?_
        refine zr_get C dX11_classes_144 (q := 147) zM_gX11_95_0 rfl ?_
        refine zr_iload_n C dX11_classes_147 (q := 148) rfl 2 rfl rfl ?_
        obtain ⟨hin_148, h⟩ := zx_ck_so h
        refine zr_iald C dX11_classes_148 (q := 149) zM_a29 hin_148 rfl ?_
        refine zr_aload_n C dX11_classes_149 (q := 150) rfl 0 rfl rfl ?_
        refine zr_get C dX11_classes_150 (q := 153) zM_gX11_92_0 rfl ?_
        refine zr_iload_n C dX11_classes_153 (q := 154) rfl 2 rfl rfl ?_
        obtain ⟨hin_154, h⟩ := zx_ck_so h
        refine zr_iald C dX11_classes_154 (q := 155) zM_a28 hin_154 rfl ?_
        refine zr_icmp_eq (tgt := 162) (q := 158) C dX11_classes_155 h (by decide) rfl (fun h => ?_) (fun h => ?_)
        · skip
          refine zr_iconst C dX11_classes_162 (q := 163) (v := (0 : Int32)) (by decide) rfl ?_
          exact zr_sub [0, 2] rfl (zM_ValueBenchModel_classes_J163_w C v2 (0 : Int32) s hr (ih) h)
        · skip
          refine zr_iconst C dX11_classes_158 (q := 159) (v := (1 : Int32)) (by decide) rfl ?_
          refine zr_goto (q := 163) C dX11_classes_159 (by decide) ?_
          exact zr_sub [0, 2] rfl (zM_ValueBenchModel_classes_J163_w C v2 (1 : Int32) s hr (ih) h)
set_option maxRecDepth 100000 in
set_option maxHeartbeats 4000000 in
theorem zM_ValueBenchModel_classes_L55_w {Z : zx_Z} (C : zx_ok zM_sd Z cX11_classes 4 RX11 2 44) {r : zx_S} {k185 : zx_S → Option zx_S} (hr : zx_rV zM_sd Z cX11_classes 4 r) (h185 : ∀ (s1 : zx_S), k185 s1 = some r → zW zM_sd Z 4 185 [] [] s1) : ∀ (n : Nat) (v1 : Int32) (s : zx_S), zM_ValueBenchModel_classes_L55 k185 n v1 s = some r → zW zM_sd Z 4 55 [(0, .ref (zz_d Z 0)), (1, .int v1)] [] s := by
  intro n
  induction n with
  | zero => intro v1 s h; unfold zM_ValueBenchModel_classes_L55 at h; cases h
  | succ n ih =>
    intro v1 s h
    unfold zM_ValueBenchModel_classes_L55 at h
    refine zr_iload_n C dX11_classes_55 (q := 56) rfl 1 rfl rfl ?_
    refine zr_if_eq (tgt := 185) (q := 59) C dX11_classes_56 h (by decide) rfl (fun h => ?_) (fun h => ?_)
    · skip
      exact zr_sub [] rfl (h185 s h)
    · skip
      refine zr_iconst C dX11_classes_59 (q := 60) (v := (0 : Int32)) (by decide) rfl ?_
      refine zr_istore_n C dX11_classes_60 (q := 61) rfl (by decide) (lv' := [(1, .int (0 : Int32)), (0, .ref (zz_d Z 0))]) rfl rfl ?_
      refine zr_iconst C dX11_classes_61 (q := 62) (v := (0 : Int32)) (by decide) rfl ?_
      refine zr_istore_n C dX11_classes_62 (q := 63) rfl (by decide) (lv' := [(2, .int (0 : Int32)), (1, .int (0 : Int32)), (0, .ref (zz_d Z 0))]) rfl rfl ?_
      refine zr_sub [2, 1, 0] rfl (zM_ValueBenchModel_classes_L63_w C (0 : Int32) hr (fun s19 h => ?_) 10000 (0 : Int32) s h)
      · skip
        refine zr_iconst C dX11_classes_129 (q := 130) (v := (0 : Int32)) (by decide) rfl ?_
        refine zr_istore_n C dX11_classes_130 (q := 131) rfl (by decide) (lv' := [(2, .int (0 : Int32)), (0, .ref (zz_d Z 0)), (1, .int (0 : Int32))]) rfl rfl ?_
        refine zr_sub [1, 2, 0] rfl (zM_ValueBenchModel_classes_L131_w C hr (fun v1_23 s24 h => ?_) 10000 (0 : Int32) (0 : Int32) s19 h)
        · skip
          refine zr_goto (q := 55) C dX11_classes_182 (by decide) ?_
          exact zr_sub [0, 1] rfl (ih v1_23 s24 h)
set_option maxRecDepth 100000 in
set_option maxHeartbeats 4000000 in
theorem zM_ValueBenchModel_classes_w {Z : zx_Z} (C : zx_ok zM_sd Z cX11_classes 4 RX11 2 44) {r : zx_S} (s : zx_S) (hr : zx_rV zM_sd Z cX11_classes 4 r) (h : zM_ValueBenchModel_classes s = some r) : zW zM_sd Z 4 0 [(0, .ref (zz_d Z 0))] [] s := by
  unfold zM_ValueBenchModel_classes at h
  refine zr_iconst C dX11_classes_0 (q := 1) (v := (0 : Int32)) (by decide) rfl ?_
  refine zr_istore_n C dX11_classes_1 (q := 2) rfl (by decide) (lv' := [(1, .int (0 : Int32)), (0, .ref (zz_d Z 0))]) rfl rfl ?_
  refine zr_sub [1, 0] rfl (zM_ValueBenchModel_classes_L2_w C hr (fun s9 h => ?_) 10000 (0 : Int32) s h)
  · skip
    refine zr_iconst C dX11_classes_53 (q := 54) (v := (1 : Int32)) (by decide) rfl ?_
    refine zr_istore_n C dX11_classes_54 (q := 55) rfl (by decide) (lv' := [(1, .int (1 : Int32)), (0, .ref (zz_d Z 0))]) rfl rfl ?_
    refine zr_sub [1, 0] rfl (zM_ValueBenchModel_classes_L55_w C hr (fun s25 h => ?_) 10000 (1 : Int32) s9 h)
    · skip
      exact zr_retV dX11_classes_185 h hr
theorem zM_ValueBenchModel_classes_met {l : Launch} {D : va_G} {cz : ClassId × ClassId} {ad : Nat → Nat} (hS : zx_So zM_sd) (hi : zx_I zM_sd ad) {s : zx_S} {s1 : zx_S} (h : zM_ValueBenchModel_classes s = some s1) : zx_MV zM_sd l D cz ad yX11_classes cX11_classes 4 2 44 [.ref (ad 0)] s s1 := zx_metV hS hi (by decide +kernel) rfl (Nat.le_of_ble_eq_true rfl) (fun Z e1 e2 e3 e4 C hr => by subst e1 e2 e3 e4; exact zM_ValueBenchModel_classes_w C s hr h)
set_option maxRecDepth 100000 in
set_option maxHeartbeats 4000000 in
theorem zM_ValueBenchModel_isAhead_w {Z : zx_Z} (C : zx_ok zM_sd Z cX11_isAhead 4 RX11 1 22) {r : Int32} (p1 p2 p3 : Int32) (s : zx_S) (hr : zx_rI zM_sd Z cX11_isAhead 4 .boolean r s) (h : zM_ValueBenchModel_isAhead p1 p2 p3 s = some r) : zW zM_sd Z 4 0 [(0, .ref (zz_d Z 0)), (1, .int p1), (2, .int p2), (3, .int p3)] [] s := by
  unfold zM_ValueBenchModel_isAhead at h
  refine zr_aload_n C dX11_isAhead_0 (q := 1) rfl 0 rfl rfl ?_
  refine zr_get C dX11_isAhead_1 (q := 4) zM_gX11_59_0 rfl ?_
  refine zr_iload_n C dX11_isAhead_4 (q := 5) rfl 1 rfl rfl ?_
  obtain ⟨hin_5, h⟩ := zx_ck_so h
  refine zr_iald C dX11_isAhead_5 (q := 6) zM_a17 hin_5 rfl ?_
  refine zr_iload_n C dX11_isAhead_6 (q := 7) rfl 2 rfl rfl ?_
  refine zr_icmp_ne (tgt := 28) (q := 10) C dX11_isAhead_7 h (by decide) rfl (fun h => ?_) (fun h => ?_)
  · skip
    refine zr_aload_n C dX11_isAhead_28 (q := 29) rfl 0 rfl rfl ?_
    refine zr_aload_n C dX11_isAhead_29 (q := 30) rfl 0 rfl rfl ?_
    refine zr_get C dX11_isAhead_30 (q := 33) zM_gX11_59_0 rfl ?_
    refine zr_iload_n C dX11_isAhead_33 (q := 34) rfl 1 rfl rfl ?_
    obtain ⟨hin_34, h⟩ := zx_ck_so h
    refine zr_iald C dX11_isAhead_34 (q := 35) zM_a17 hin_34 rfl ?_
    refine zr_iload_n C dX11_isAhead_35 (q := 36) rfl 2 rfl rfl ?_
    obtain ⟨r1, hc_36, h⟩ := zx_b1_so h
    refine zr_cvI (q := 39) C (As := [.int (s 17 (p1).toNatClampNeg), .int p2]) (k := 0) (rest := []) dX11_isAhead_36 (zM_ValueBenchModel_dominates1_met C.2.2.2.2.1 C.2.2.2.1 hc_36) zM_vX11_149 zM_o0 ⟨by decide, by decide⟩ rfl (Nat.le_of_ble_eq_true rfl) rfl rfl ?_
    obtain ⟨hb9, h⟩ := zx_zr_so h
    exact zr_retZR dX11_isAhead_39 hb9 h hr
  · skip
    refine zr_aload_n C dX11_isAhead_10 (q := 11) rfl 0 rfl rfl ?_
    refine zr_get C dX11_isAhead_11 (q := 14) zM_gX11_68_0 rfl ?_
    refine zr_iload_n C dX11_isAhead_14 (q := 15) rfl 1 rfl rfl ?_
    obtain ⟨hin_15, h⟩ := zx_ck_so h
    refine zr_iald C dX11_isAhead_15 (q := 16) zM_a20 hin_15 rfl ?_
    refine zr_iload_n C dX11_isAhead_16 (q := 17) rfl 3 rfl rfl ?_
    refine zr_icmp_ge (tgt := 24) (q := 20) C dX11_isAhead_17 h (by decide) rfl (fun h => ?_) (fun h => ?_)
    · skip
      refine zr_iconst C dX11_isAhead_24 (q := 25) (v := (0 : Int32)) (by decide) rfl ?_
      refine zr_goto (q := 39) C dX11_isAhead_25 (by decide) ?_
      exact zr_retZR dX11_isAhead_39 (Or.inl rfl) h hr
    · skip
      refine zr_iconst C dX11_isAhead_20 (q := 21) (v := (1 : Int32)) (by decide) rfl ?_
      refine zr_goto (q := 39) C dX11_isAhead_21 (by decide) ?_
      exact zr_retZR dX11_isAhead_39 (Or.inr rfl) h hr
theorem zM_ValueBenchModel_isAhead_met {l : Launch} {D : va_G} {cz : ClassId × ClassId} {ad : Nat → Nat} (hS : zx_So zM_sd) (hi : zx_I zM_sd ad) {p1 p2 p3 : Int32} {s : zx_S} {v : Int32} (h : zM_ValueBenchModel_isAhead p1 p2 p3 s = some v) : zx_MI zM_sd l D cz ad yX11_isAhead cX11_isAhead 4 .boolean 1 22 [.ref (ad 0), .int p1, .int p2, .int p3] s v s := zx_metI hS hi (by decide +kernel) rfl (Nat.le_of_ble_eq_true rfl) (fun Z e1 e2 e3 e4 C hr => by subst e1 e2 e3 e4; exact zM_ValueBenchModel_isAhead_w C p1 p2 p3 s hr h)
set_option maxRecDepth 100000 in
set_option maxHeartbeats 4000000 in
theorem zM_ValueBenchModel_redundant_J97_w {Z : zx_Z} (C : zx_ok zM_sd Z cX11_redundant 4 RX11 2 45) {r : zx_S} (v1 v2 t0 : Int32) (s : zx_S) {k19 : Int32 → zx_S → Option zx_S} (hr : zx_rV zM_sd Z cX11_redundant 4 r) (h19 : ∀ (a0 : Int32) (s1 : zx_S), k19 a0 s1 = some r → zW zM_sd Z 4 19 [(0, .ref (zz_d Z 0)), (1, .int v1), (2, .int a0)] [] s1) (h : zM_ValueBenchModel_redundant_J97 k19 v1 v2 t0 s = some r) : zW zM_sd Z 4 97 [(0, .ref (zz_d Z 0)), (1, .int v1), (2, .int v2)] [.int t0] s := by
  unfold zM_ValueBenchModel_redundant_J97 at h
  refine zr_istore_n C dX11_redundant_97 (q := 98) rfl (by decide) (lv' := [(3, .int t0), (0, .ref (zz_d Z 0)), (1, .int v1), (2, .int v2)]) rfl rfl ?_
  refine zr_aload_n C dX11_redundant_98 (q := 99) rfl 1 rfl rfl ?_
  refine zr_get C dX11_redundant_99 (q := 102) zM_gX11_98_0 rfl ?_
  refine zr_iload_n C dX11_redundant_102 (q := 103) rfl 2 rfl rfl ?_
  refine zr_aload_n C dX11_redundant_103 (q := 104) rfl 1 rfl rfl ?_
  refine zr_get C dX11_redundant_104 (q := 107) zM_gX11_98_0 rfl ?_
  refine zr_iload_n C dX11_redundant_107 (q := 108) rfl 2 rfl rfl ?_
  obtain ⟨hin_108, h⟩ := zx_ck_so h
  refine zr_zald C dX11_redundant_108 (q := 109) zM_a30 hin_108 rfl ?_
  refine zr_if_ne (tgt := 136) (q := 112) C dX11_redundant_109 h (by decide) rfl (fun h => ?_) (fun h => ?_)
  · skip
    refine zr_iconst C dX11_redundant_136 (q := 137) (v := (1 : Int32)) (by decide) rfl ?_
    refine zr_goto (q := 141) C dX11_redundant_137 (by decide) ?_
    obtain ⟨hin_141, h⟩ := zx_ck_so h
    refine zr_zast C dX11_redundant_141 (q := 142) zM_a30 hin_141 rfl ?_
    refine zr_ls h (fun s10 h => ?_)
    refine zr_iinc C dX11_redundant_142 (q := 145) h (by decide) 3 rfl (by decide) (lw := fun v2_11 => [(2, .int v2_11), (3, .int t0), (0, .ref (zz_d Z 0)), (1, .int v1)]) (fun _ => rfl) rfl (fun v2_11 h => ?_)
    refine zr_goto (q := 19) C dX11_redundant_145 (by decide) ?_
    exact zr_sub [2, 3, 0] rfl (h19 v2_11 s10 h)
  · skip
    refine zr_iload_n C dX11_redundant_112 (q := 113) rfl 0 rfl rfl ?_
    refine zr_if_ne (tgt := 136) (q := 116) C dX11_redundant_113 h (by decide) rfl (fun h => ?_) (fun h => ?_)
    · skip
      refine zr_iconst C dX11_redundant_136 (q := 137) (v := (1 : Int32)) (by decide) rfl ?_
      refine zr_goto (q := 141) C dX11_redundant_137 (by decide) ?_
      obtain ⟨hin_141, h⟩ := zx_ck_so h
      refine zr_zast C dX11_redundant_141 (q := 142) zM_a30 hin_141 rfl ?_
      refine zr_ls h (fun s8 h => ?_)
      refine zr_iinc C dX11_redundant_142 (q := 145) h (by decide) 3 rfl (by decide) (lw := fun v2_9 => [(2, .int v2_9), (3, .int t0), (0, .ref (zz_d Z 0)), (1, .int v1)]) (fun _ => rfl) rfl (fun v2_9 h => ?_)
      refine zr_goto (q := 19) C dX11_redundant_145 (by decide) ?_
      exact zr_sub [2, 3, 0] rfl (h19 v2_9 s8 h)
    · skip
      refine zr_aload_n C dX11_redundant_116 (q := 117) rfl 1 rfl rfl ?_
      refine zr_iload_n C dX11_redundant_117 (q := 118) rfl 3 rfl rfl ?_
      refine zr_aload_n C dX11_redundant_118 (q := 119) rfl 1 rfl rfl ?_
      refine zr_get C dX11_redundant_119 (q := 122) zM_gX11_59_0 rfl ?_
      refine zr_iload_n C dX11_redundant_122 (q := 123) rfl 2 rfl rfl ?_
      obtain ⟨hin_123, h⟩ := zx_ck_so h
      refine zr_iald C dX11_redundant_123 (q := 124) zM_a17 hin_123 rfl ?_
      refine zr_aload_n C dX11_redundant_124 (q := 125) rfl 1 rfl rfl ?_
      refine zr_get C dX11_redundant_125 (q := 128) zM_gX11_68_0 rfl ?_
      refine zr_iload_n C dX11_redundant_128 (q := 129) rfl 2 rfl rfl ?_
      obtain ⟨hin_129, h⟩ := zx_ck_so h
      refine zr_iald C dX11_redundant_129 (q := 130) zM_a20 hin_129 rfl ?_
      obtain ⟨r3, hc_130, h⟩ := zx_b1_so h
      refine zr_cvI (q := 133) C (As := [.int v2, .int (s 17 (v1).toNatClampNeg), .int (s 20 (v1).toNatClampNeg)]) (k := 0) (rest := [.int v1, .ref (zz_d Z 30)]) dX11_redundant_130 (zM_ValueBenchModel_isAhead_met C.2.2.2.2.1 C.2.2.2.1 hc_130) zM_vX11_179 zM_o0 ⟨by decide, by decide⟩ rfl (Nat.le_of_ble_eq_true rfl) rfl rfl ?_
      refine zr_if_eq (tgt := 140) (q := 136) C dX11_redundant_133 h (by decide) rfl (fun h => ?_) (fun h => ?_)
      · skip
        refine zr_iconst C dX11_redundant_140 (q := 141) (v := (0 : Int32)) (by decide) rfl ?_
        obtain ⟨hin_141, h⟩ := zx_ck_so h
        refine zr_zast C dX11_redundant_141 (q := 142) zM_a30 hin_141 rfl ?_
        refine zr_ls h (fun s6 h => ?_)
        refine zr_iinc C dX11_redundant_142 (q := 145) h (by decide) 3 rfl (by decide) (lw := fun v2_7 => [(2, .int v2_7), (3, .int t0), (0, .ref (zz_d Z 0)), (1, .int v1)]) (fun _ => rfl) rfl (fun v2_7 h => ?_)
        refine zr_goto (q := 19) C dX11_redundant_145 (by decide) ?_
        exact zr_sub [2, 3, 0] rfl (h19 v2_7 s6 h)
      · skip
        refine zr_iconst C dX11_redundant_136 (q := 137) (v := (1 : Int32)) (by decide) rfl ?_
        refine zr_goto (q := 141) C dX11_redundant_137 (by decide) ?_
        obtain ⟨hin_141, h⟩ := zx_ck_so h
        refine zr_zast C dX11_redundant_141 (q := 142) zM_a30 hin_141 rfl ?_
        refine zr_ls h (fun s4 h => ?_)
        refine zr_iinc C dX11_redundant_142 (q := 145) h (by decide) 3 rfl (by decide) (lw := fun v2_5 => [(2, .int v2_5), (3, .int t0), (0, .ref (zz_d Z 0)), (1, .int v1)]) (fun _ => rfl) rfl (fun v2_5 h => ?_)
        refine zr_goto (q := 19) C dX11_redundant_145 (by decide) ?_
        exact zr_sub [2, 3, 0] rfl (h19 v2_5 s4 h)
set_option maxRecDepth 100000 in
set_option maxHeartbeats 4000000 in
theorem zM_ValueBenchModel_redundant_L19_w {Z : zx_Z} (C : zx_ok zM_sd Z cX11_redundant 4 RX11 2 45) {r : zx_S} (v1 : Int32) {k148 : zx_S → Option zx_S} (hr : zx_rV zM_sd Z cX11_redundant 4 r) (h148 : ∀ (s1 : zx_S), k148 s1 = some r → zW zM_sd Z 4 148 [(0, .ref (zz_d Z 0)), (1, .int v1)] [] s1) : ∀ (n : Nat) (v2 : Int32) (s : zx_S), zM_ValueBenchModel_redundant_L19 v1 k148 n v2 s = some r → zW zM_sd Z 4 19 [(0, .ref (zz_d Z 0)), (1, .int v1), (2, .int v2)] [] s := by
  intro n
  induction n with
  | zero => intro v2 s h; unfold zM_ValueBenchModel_redundant_L19 at h; cases h
  | succ n ih =>
    intro v2 s h
    unfold zM_ValueBenchModel_redundant_L19 at h
    refine zr_iload_n C dX11_redundant_19 (q := 20) rfl 2 rfl rfl ?_
    refine zr_aload_n C dX11_redundant_20 (q := 21) rfl 0 rfl rfl ?_
    refine zr_get C dX11_redundant_21 (q := 24) zM_gX11_155_0 rfl ?_
    refine zr_icmp_ge (tgt := 148) (q := 27) C dX11_redundant_24 h (by decide) rfl (fun h => ?_) (fun h => ?_)
    · skip
      exact zr_sub [0, 1] rfl (h148 s h)
    · skip
      refine zr_iload_n C dX11_redundant_27 (q := 28) rfl 2 rfl rfl ?_
      refine zr_iload_n C dX11_redundant_28 (q := 29) rfl 1 rfl rfl ?_
      refine zr_icmp_eq (tgt := 142) (q := 32) C dX11_redundant_29 h (by decide) rfl (fun h => ?_) (fun h => ?_)
      · skip
        refine zr_iinc C dX11_redundant_142 (q := 145) h (by decide) 2 rfl (by decide) (lw := fun v2_12 => [(2, .int v2_12), (0, .ref (zz_d Z 0)), (1, .int v1)]) (fun _ => rfl) rfl (fun v2_12 h => ?_)
        refine zr_goto (q := 19) C dX11_redundant_145 (by decide) ?_
        exact zr_sub [1, 2, 0] rfl (ih v2_12 s h)
      · skip
        refine zr_aload_n C dX11_redundant_32 (q := 33) rfl 0 rfl rfl ?_
        refine zr_get C dX11_redundant_33 (q := 36) zM_gX11_92_0 rfl ?_
        refine zr_iload_n C dX11_redundant_36 (q := 37) rfl 2 rfl rfl ?_
        obtain ⟨hin_37, h⟩ := zx_ck_so h
        refine zr_iald C dX11_redundant_37 (q := 38) zM_a28 hin_37 rfl ?_
        refine zr_aload_n C dX11_redundant_38 (q := 39) rfl 0 rfl rfl ?_
        refine zr_get C dX11_redundant_39 (q := 42) zM_gX11_92_0 rfl ?_
        refine zr_iload_n C dX11_redundant_42 (q := 43) rfl 1 rfl rfl ?_
        obtain ⟨hin_43, h⟩ := zx_ck_so h
        refine zr_iald C dX11_redundant_43 (q := 44) zM_a28 hin_43 rfl ?_
        refine zr_icmp_eq (tgt := 50) (q := 47) C dX11_redundant_44 h (by decide) rfl (fun h => ?_) (fun h => ?_)
        · skip
          refine zr_aload_n C dX11_redundant_50 (q := 51) rfl 0 rfl rfl ?_
          refine zr_get C dX11_redundant_51 (q := 54) zM_gX11_56_0 rfl ?_
          refine zr_iload_n C dX11_redundant_54 (q := 55) rfl 2 rfl rfl ?_
          obtain ⟨hin_55, h⟩ := zx_ck_so h
          refine zr_iald C dX11_redundant_55 (q := 56) zM_a16 hin_55 rfl ?_
          refine zr_bipush C dX11_redundant_56 (q := 58) (v := (15 : Int32)) (by decide) rfl ?_
          refine zr_icmp_ne (tgt := 96) (q := 61) C dX11_redundant_58 h (by decide) rfl (fun h => ?_) (fun h => ?_)
          · skip
            refine zr_iconst C dX11_redundant_96 (q := 97) (v := (0 : Int32)) (by decide) rfl ?_
            exact zr_sub [0, 1, 2] rfl (zM_ValueBenchModel_redundant_J97_w C v1 v2 (0 : Int32) s hr (ih) h)
          · skip
            refine zr_aload_n C dX11_redundant_61 (q := 62) rfl 0 rfl rfl ?_
            refine zr_get C dX11_redundant_62 (q := 65) zM_gX11_56_0 rfl ?_
            refine zr_iload_n C dX11_redundant_65 (q := 66) rfl 1 rfl rfl ?_
            obtain ⟨hin_66, h⟩ := zx_ck_so h
            refine zr_iald C dX11_redundant_66 (q := 67) zM_a16 hin_66 rfl ?_
            refine zr_bipush C dX11_redundant_67 (q := 69) (v := (15 : Int32)) (by decide) rfl ?_
            refine zr_icmp_ne (tgt := 96) (q := 72) C dX11_redundant_69 h (by decide) rfl (fun h => ?_) (fun h => ?_)
            · skip
              refine zr_iconst C dX11_redundant_96 (q := 97) (v := (0 : Int32)) (by decide) rfl ?_
              exact zr_sub [0, 1, 2] rfl (zM_ValueBenchModel_redundant_J97_w C v1 v2 (0 : Int32) s hr (ih) h)
            · skip
              refine zr_aload_n C dX11_redundant_72 (q := 73) rfl 0 rfl rfl ?_
              refine zr_get C dX11_redundant_73 (q := 76) zM_gX11_59_0 rfl ?_
              refine zr_iload_n C dX11_redundant_76 (q := 77) rfl 2 rfl rfl ?_
              obtain ⟨hin_77, h⟩ := zx_ck_so h
              refine zr_iald C dX11_redundant_77 (q := 78) zM_a17 hin_77 rfl ?_
              refine zr_aload_n C dX11_redundant_78 (q := 79) rfl 0 rfl rfl ?_
              refine zr_get C dX11_redundant_79 (q := 82) zM_gX11_59_0 rfl ?_
              refine zr_iload_n C dX11_redundant_82 (q := 83) rfl 1 rfl rfl ?_
              obtain ⟨hin_83, h⟩ := zx_ck_so h
              refine zr_iald C dX11_redundant_83 (q := 84) zM_a17 hin_83 rfl ?_
              refine zr_icmp_ne (tgt := 96) (q := 87) C dX11_redundant_84 h (by decide) rfl (fun h => ?_) (fun h => ?_)
              · skip
                refine zr_iconst C dX11_redundant_96 (q := 97) (v := (0 : Int32)) (by decide) rfl ?_
                exact zr_sub [0, 1, 2] rfl (zM_ValueBenchModel_redundant_J97_w C v1 v2 (0 : Int32) s hr (ih) h)
              · skip
                refine zr_iload_n C dX11_redundant_87 (q := 88) rfl 2 rfl rfl ?_
                refine zr_iload_n C dX11_redundant_88 (q := 89) rfl 1 rfl rfl ?_
                refine zr_icmp_ge (tgt := 96) (q := 92) C dX11_redundant_89 h (by decide) rfl (fun h => ?_) (fun h => ?_)
                · skip
                  refine zr_iconst C dX11_redundant_96 (q := 97) (v := (0 : Int32)) (by decide) rfl ?_
                  exact zr_sub [0, 1, 2] rfl (zM_ValueBenchModel_redundant_J97_w C v1 v2 (0 : Int32) s hr (ih) h)
                · skip
                  refine zr_iconst C dX11_redundant_92 (q := 93) (v := (1 : Int32)) (by decide) rfl ?_
                  refine zr_goto (q := 97) C dX11_redundant_93 (by decide) ?_
                  exact zr_sub [0, 1, 2] rfl (zM_ValueBenchModel_redundant_J97_w C v1 v2 (1 : Int32) s hr (ih) h)
        · skip
          refine zr_goto (q := 142) C dX11_redundant_47 (by decide) ?_
          refine zr_iinc C dX11_redundant_142 (q := 145) h (by decide) 2 rfl (by decide) (lw := fun v2_2 => [(2, .int v2_2), (0, .ref (zz_d Z 0)), (1, .int v1)]) (fun _ => rfl) rfl (fun v2_2 h => ?_)
          refine zr_goto (q := 19) C dX11_redundant_145 (by decide) ?_
          exact zr_sub [1, 2, 0] rfl (ih v2_2 s h)
set_option maxRecDepth 100000 in
set_option maxHeartbeats 4000000 in
theorem zM_ValueBenchModel_redundant_L2_w {Z : zx_Z} (C : zx_ok zM_sd Z cX11_redundant 4 RX11 2 45) {r : zx_S} {k154 : zx_S → Option zx_S} (hr : zx_rV zM_sd Z cX11_redundant 4 r) (h154 : ∀ (s1 : zx_S), k154 s1 = some r → zW zM_sd Z 4 154 [] [] s1) : ∀ (n : Nat) (v1 : Int32) (s : zx_S), zM_ValueBenchModel_redundant_L2 k154 n v1 s = some r → zW zM_sd Z 4 2 [(0, .ref (zz_d Z 0)), (1, .int v1)] [] s := by
  intro n
  induction n with
  | zero => intro v1 s h; unfold zM_ValueBenchModel_redundant_L2 at h; cases h
  | succ n ih =>
    intro v1 s h
    unfold zM_ValueBenchModel_redundant_L2 at h
    refine zr_iload_n C dX11_redundant_2 (q := 3) rfl 1 rfl rfl ?_
    refine zr_aload_n C dX11_redundant_3 (q := 4) rfl 0 rfl rfl ?_
    refine zr_get C dX11_redundant_4 (q := 7) zM_gX11_155_0 rfl ?_
    refine zr_icmp_ge (tgt := 154) (q := 10) C dX11_redundant_7 h (by decide) rfl (fun h => ?_) (fun h => ?_)
    · skip
      exact zr_sub [] rfl (h154 s h)
    · skip
      refine zr_aload_n C dX11_redundant_10 (q := 11) rfl 0 rfl rfl ?_
      refine zr_get C dX11_redundant_11 (q := 14) zM_gX11_98_0 rfl ?_
      refine zr_iload_n C dX11_redundant_14 (q := 15) rfl 1 rfl rfl ?_
      refine zr_iconst C dX11_redundant_15 (q := 16) (v := (0 : Int32)) (by decide) rfl ?_
      obtain ⟨hin_16, h⟩ := zx_ck_so h
      refine zr_zast C dX11_redundant_16 (q := 17) zM_a30 hin_16 rfl ?_
      refine zr_ls h (fun s1 h => ?_)
      refine zr_iconst C dX11_redundant_17 (q := 18) (v := (0 : Int32)) (by decide) rfl ?_
      refine zr_istore_n C dX11_redundant_18 (q := 19) rfl (by decide) (lv' := [(2, .int (0 : Int32)), (0, .ref (zz_d Z 0)), (1, .int v1)]) rfl rfl ?_
      refine zr_sub [1, 2, 0] rfl (zM_ValueBenchModel_redundant_L19_w C v1 hr (fun s13 h => ?_) 10000 (0 : Int32) s1 h)
      · skip
        refine zr_iinc C dX11_redundant_148 (q := 151) h (by decide) 1 rfl (by decide) (lw := fun v1_14 => [(1, .int v1_14), (0, .ref (zz_d Z 0))]) (fun _ => rfl) rfl (fun v1_14 h => ?_)
        refine zr_goto (q := 2) C dX11_redundant_151 (by decide) ?_
        exact zr_sub [1, 0] rfl (ih v1_14 s13 h)
set_option maxRecDepth 100000 in
set_option maxHeartbeats 4000000 in
theorem zM_ValueBenchModel_redundant_w {Z : zx_Z} (C : zx_ok zM_sd Z cX11_redundant 4 RX11 2 45) {r : zx_S} (s : zx_S) (hr : zx_rV zM_sd Z cX11_redundant 4 r) (h : zM_ValueBenchModel_redundant s = some r) : zW zM_sd Z 4 0 [(0, .ref (zz_d Z 0))] [] s := by
  unfold zM_ValueBenchModel_redundant at h
  refine zr_iconst C dX11_redundant_0 (q := 1) (v := (0 : Int32)) (by decide) rfl ?_
  refine zr_istore_n C dX11_redundant_1 (q := 2) rfl (by decide) (lv' := [(1, .int (0 : Int32)), (0, .ref (zz_d Z 0))]) rfl rfl ?_
  refine zr_sub [1, 0] rfl (zM_ValueBenchModel_redundant_L2_w C hr (fun s15 h => ?_) 10000 (0 : Int32) s h)
  · skip
    exact zr_retV dX11_redundant_154 h hr
theorem zM_ValueBenchModel_redundant_met {l : Launch} {D : va_G} {cz : ClassId × ClassId} {ad : Nat → Nat} (hS : zx_So zM_sd) (hi : zx_I zM_sd ad) {s : zx_S} {s1 : zx_S} (h : zM_ValueBenchModel_redundant s = some s1) : zx_MV zM_sd l D cz ad yX11_redundant cX11_redundant 4 2 45 [.ref (ad 0)] s s1 := zx_metV hS hi (by decide +kernel) rfl (Nat.le_of_ble_eq_true rfl) (fun Z e1 e2 e3 e4 C hr => by subst e1 e2 e3 e4; exact zM_ValueBenchModel_redundant_w C s hr h)
set_option maxRecDepth 100000 in
set_option maxHeartbeats 4000000 in
theorem zM_ValueBenchModel_make_w {Z : zx_Z} (C : zx_ok zM_sd Z cX11_make 1 RX11 4 92) {r : zx_S} (s : zx_S) (hr : zx_rV zM_sd Z cX11_make 1 r) (h : zM_ValueBenchModel_make s = some r) : zW zM_sd Z 1 0 [(0, .ref (zz_d Z 0))] [] s := by
  unfold zM_ValueBenchModel_make at h
  refine zr_aload_n C dX11_make_0 (q := 1) rfl 0 rfl rfl ?_
  refine zr_get C dX11_make_1 (q := 4) zM_gX11_123_0 rfl ?_
  refine zr_if_eq (tgt := 8) (q := 7) C dX11_make_4 h (by decide) rfl (fun h => ?_) (fun h => ?_)
  · skip
    refine zr_aload_n C dX11_make_8 (q := 9) rfl 0 rfl rfl ?_
    refine zr_iconst C dX11_make_9 (q := 10) (v := (1 : Int32)) (by decide) rfl ?_
    refine zr_put C dX11_make_10 (q := 13) zM_pX11_123_0 (by decide) (by decide) rfl ?_
    refine zr_ls h (fun s1 h => ?_)
    refine zr_aload_n C dX11_make_13 (q := 14) rfl 0 rfl rfl ?_
    obtain ⟨s2, hc_14, h⟩ := zx_b1_so h
    refine zr_cvV (q := 17) C (As := []) (k := 0) (rest := []) dX11_make_14 (zM_ValueBenchModel_dominance_met C.2.2.2.2.1 C.2.2.2.1 hc_14) zM_vX11_183 zM_o0 ⟨by decide, by decide⟩ rfl (Nat.le_of_ble_eq_true rfl) rfl rfl ?_
    refine zr_aload_n C dX11_make_17 (q := 18) rfl 0 rfl rfl ?_
    obtain ⟨s3, hc_18, h⟩ := zx_b1_so h
    refine zr_cvV (q := 21) C (As := []) (k := 0) (rest := []) dX11_make_18 (zM_ValueBenchModel_choices_met C.2.2.2.2.1 C.2.2.2.1 hc_18) zM_vX11_186 zM_o0 ⟨by decide, by decide⟩ rfl (Nat.le_of_ble_eq_true rfl) rfl rfl ?_
    refine zr_aload_n C dX11_make_21 (q := 22) rfl 0 rfl rfl ?_
    obtain ⟨s4, hc_22, h⟩ := zx_b1_so h
    refine zr_cvV (q := 25) C (As := []) (k := 0) (rest := []) dX11_make_22 (zM_ValueBenchModel_numbers_met C.2.2.2.2.1 C.2.2.2.1 hc_22) zM_vX11_189 zM_o0 ⟨by decide, by decide⟩ rfl (Nat.le_of_ble_eq_true rfl) rfl rfl ?_
    refine zr_aload_n C dX11_make_25 (q := 26) rfl 0 rfl rfl ?_
    obtain ⟨s5, hc_26, h⟩ := zx_b1_so h
    refine zr_cvV (q := 29) C (As := []) (k := 0) (rest := []) dX11_make_26 (zM_ValueBenchModel_names_met C.2.2.2.2.1 C.2.2.2.1 hc_26) zM_vX11_192 zM_o0 ⟨by decide, by decide⟩ rfl (Nat.le_of_ble_eq_true rfl) rfl rfl ?_
    refine zr_aload_n C dX11_make_29 (q := 30) rfl 0 rfl rfl ?_
    obtain ⟨s6, hc_30, h⟩ := zx_b1_so h
    refine zr_cvV (q := 33) C (As := []) (k := 0) (rest := []) dX11_make_30 (zM_ValueBenchModel_classes_met C.2.2.2.2.1 C.2.2.2.1 hc_30) zM_vX11_195 zM_o0 ⟨by decide, by decide⟩ rfl (Nat.le_of_ble_eq_true rfl) rfl rfl ?_
    refine zr_aload_n C dX11_make_33 (q := 34) rfl 0 rfl rfl ?_
    obtain ⟨s7, hc_34, h⟩ := zx_b1_so h
    refine zr_cvV (q := 37) C (As := []) (k := 0) (rest := []) dX11_make_34 (zM_ValueBenchModel_redundant_met C.2.2.2.2.1 C.2.2.2.1 hc_34) zM_vX11_198 zM_o0 ⟨by decide, by decide⟩ rfl (Nat.le_of_ble_eq_true rfl) rfl rfl ?_
    exact zr_retV dX11_make_37 h hr
  · skip
    exact zr_retV dX11_make_7 h hr
theorem zM_ValueBenchModel_make_met {l : Launch} {D : va_G} {cz : ClassId × ClassId} {ad : Nat → Nat} (hS : zx_So zM_sd) (hi : zx_I zM_sd ad) {s : zx_S} {s1 : zx_S} (h : zM_ValueBenchModel_make s = some s1) : zx_MV zM_sd l D cz ad yX11_make cX11_make 1 4 92 [.ref (ad 0)] s s1 := zx_metV hS hi (by decide +kernel) rfl (Nat.le_of_ble_eq_true rfl) (fun Z e1 e2 e3 e4 C hr => by subst e1 e2 e3 e4; exact zM_ValueBenchModel_make_w C s hr h)
set_option maxRecDepth 100000 in
set_option maxHeartbeats 4000000 in
theorem zM_ValueBenchModel_costs_w {Z : zx_Z} (C : zx_ok zM_sd Z cX11_costs 5 RX11 0 0) {r : Int32} (p1 p2 p3 : Int32) (s : zx_S) (hr : zx_rI zM_sd Z cX11_costs 5 .boolean r s) (h : zM_ValueBenchModel_costs p1 p2 p3 s = some r) : zW zM_sd Z 5 0 [(0, .ref (zz_d Z 0)), (1, .int p1), (2, .int p2), (3, .int p3)] [] s := by
  unfold zM_ValueBenchModel_costs at h
  refine zr_bipush C dX11_costs_0 (q := 2) (v := (100 : Int32)) (by decide) rfl ?_
  refine zr_iload_n C dX11_costs_2 (q := 3) rfl 2 rfl rfl ?_
  refine zr_imul C dX11_costs_3 (q := 4) rfl ?_
  refine zr_iload_n C dX11_costs_4 (q := 5) rfl 3 rfl rfl ?_
  refine zr_iadd C dX11_costs_5 (q := 6) rfl ?_
  refine zr_top h (fun v4_1 h => ?_)
  refine zr_istore C dX11_costs_6 (q := 8) (by decide) (lv' := [(4, .int v4_1), (0, .ref (zz_d Z 0)), (1, .int p1), (2, .int p2), (3, .int p3)]) rfl rfl ?_
  refine zr_iload_n C dX11_costs_8 (q := 9) rfl 2 rfl rfl ?_
  refine zr_if_eq (tgt := 55) (q := 12) C dX11_costs_9 h (by decide) rfl (fun h => ?_) (fun h => ?_)
  · skip
    refine zr_iconst C dX11_costs_55 (q := 56) (v := (1 : Int32)) (by decide) rfl ?_
    refine zr_goto (q := 60) C dX11_costs_56 (by decide) ?_
    exact zr_retZR dX11_costs_60 (Or.inr rfl) h hr
  · skip
    refine zr_aload_n C dX11_costs_12 (q := 13) rfl 1 rfl rfl ?_
    refine zr_get C dX11_costs_13 (q := 16) zM_gX11_7_0 rfl ?_
    refine zr_iload C dX11_costs_16 (q := 18) 0 rfl rfl ?_
    obtain ⟨hin_18, h⟩ := zx_ck_so h
    refine zr_iald C dX11_costs_18 (q := 19) zM_a1 hin_18 rfl ?_
    refine zr_iconst C dX11_costs_19 (q := 20) (v := (2 : Int32)) (by decide) rfl ?_
    refine zr_icmp_eq (tgt := 59) (q := 23) C dX11_costs_20 h (by decide) rfl (fun h => ?_) (fun h => ?_)
    · skip
      refine zr_iconst C dX11_costs_59 (q := 60) (v := (0 : Int32)) (by decide) rfl ?_
      exact zr_retZR dX11_costs_60 (Or.inl rfl) h hr
    · skip
      refine zr_iload_n C dX11_costs_23 (q := 24) rfl 2 rfl rfl ?_
      refine zr_iconst C dX11_costs_24 (q := 25) (v := (1 : Int32)) (by decide) rfl ?_
      refine zr_icmp_eq (tgt := 55) (q := 28) C dX11_costs_25 h (by decide) rfl (fun h => ?_) (fun h => ?_)
      · skip
        refine zr_iconst C dX11_costs_55 (q := 56) (v := (1 : Int32)) (by decide) rfl ?_
        refine zr_goto (q := 60) C dX11_costs_56 (by decide) ?_
        exact zr_retZR dX11_costs_60 (Or.inr rfl) h hr
      · skip
        refine zr_aload_n C dX11_costs_28 (q := 29) rfl 1 rfl rfl ?_
        refine zr_get C dX11_costs_29 (q := 32) zM_gX11_7_0 rfl ?_
        refine zr_iload C dX11_costs_32 (q := 34) 0 rfl rfl ?_
        obtain ⟨hin_34, h⟩ := zx_ck_so h
        refine zr_iald C dX11_costs_34 (q := 35) zM_a1 hin_34 rfl ?_
        refine zr_bipush C dX11_costs_35 (q := 37) (v := (14 : Int32)) (by decide) rfl ?_
        refine zr_icmp_eq (tgt := 55) (q := 40) C dX11_costs_37 h (by decide) rfl (fun h => ?_) (fun h => ?_)
        · skip
          refine zr_iconst C dX11_costs_55 (q := 56) (v := (1 : Int32)) (by decide) rfl ?_
          refine zr_goto (q := 60) C dX11_costs_56 (by decide) ?_
          exact zr_retZR dX11_costs_60 (Or.inr rfl) h hr
        · skip
          refine zr_aload_n C dX11_costs_40 (q := 41) rfl 1 rfl rfl ?_
          refine zr_get C dX11_costs_41 (q := 44) zM_gX11_98_0 rfl ?_
          refine zr_aload_n C dX11_costs_44 (q := 45) rfl 1 rfl rfl ?_
          refine zr_get C dX11_costs_45 (q := 48) zM_gX11_80_0 rfl ?_
          refine zr_iload C dX11_costs_48 (q := 50) 0 rfl rfl ?_
          obtain ⟨hin_50, h⟩ := zx_ck_so h
          refine zr_iald C dX11_costs_50 (q := 51) zM_a24 hin_50 rfl ?_
          obtain ⟨hin_51, h⟩ := zx_ck_so h
          refine zr_zald C dX11_costs_51 (q := 52) zM_a30 hin_51 rfl ?_
          refine zr_if_ne (tgt := 59) (q := 55) C dX11_costs_52 h (by decide) rfl (fun h => ?_) (fun h => ?_)
          · skip
            refine zr_iconst C dX11_costs_59 (q := 60) (v := (0 : Int32)) (by decide) rfl ?_
            exact zr_retZR dX11_costs_60 (Or.inl rfl) h hr
          · skip
            refine zr_iconst C dX11_costs_55 (q := 56) (v := (1 : Int32)) (by decide) rfl ?_
            refine zr_goto (q := 60) C dX11_costs_56 (by decide) ?_
            exact zr_retZR dX11_costs_60 (Or.inr rfl) h hr
theorem zM_ValueBenchModel_costs_met {l : Launch} {D : va_G} {cz : ClassId × ClassId} {ad : Nat → Nat} (hS : zx_So zM_sd) (hi : zx_I zM_sd ad) {p1 p2 p3 : Int32} {s : zx_S} {v : Int32} (h : zM_ValueBenchModel_costs p1 p2 p3 s = some v) : zx_MI zM_sd l D cz ad yX11_costs cX11_costs 5 .boolean 0 0 [.ref (ad 0), .int p1, .int p2, .int p3] s v s := zx_metI hS hi (by decide +kernel) rfl (Nat.le_of_ble_eq_true rfl) (fun Z e1 e2 e3 e4 C hr => by subst e1 e2 e3 e4; exact zM_ValueBenchModel_costs_w C p1 p2 p3 s hr h)
set_option maxRecDepth 100000 in
set_option maxHeartbeats 4000000 in
theorem zM_ValueBenchModel_takes_w {Z : zx_Z} (C : zx_ok zM_sd Z cX11_takes 1 RX11 0 0) {r : Int32 × zx_S} (s : zx_S) (hr : zx_rI zM_sd Z cX11_takes 1 .boolean r.1 r.2) (h : zM_ValueBenchModel_takes s = some r) : zW zM_sd Z 1 0 [(0, .ref (zz_d Z 0))] [] s := by
  unfold zM_ValueBenchModel_takes at h
  refine zr_aload_n C dX11_takes_0 (q := 1) rfl 0 rfl rfl ?_
  refine zr_get C dX11_takes_1 (q := 4) zM_gX11_212_0 rfl ?_
  refine zr_aload_n C dX11_takes_4 (q := 5) rfl 0 rfl rfl ?_
  refine zr_get C dX11_takes_5 (q := 8) zM_gX11_101_0 rfl ?_
  refine zr_icmp_ne (tgt := 13) (q := 11) C dX11_takes_8 h (by decide) rfl (fun h => ?_) (fun h => ?_)
  · skip
    refine zr_aload_n C dX11_takes_13 (q := 14) rfl 0 rfl rfl ?_
    refine zr_dup C dX11_takes_14 (q := 15) rfl rfl ?_
    refine zr_get C dX11_takes_15 (q := 18) zM_gX11_212_0 rfl ?_
    refine zr_iconst C dX11_takes_18 (q := 19) (v := (1 : Int32)) (by decide) rfl ?_
    refine zr_iadd C dX11_takes_19 (q := 20) rfl ?_
    refine zr_top h (fun x1 h => ?_)
    refine zr_put C dX11_takes_20 (q := 23) zM_pX11_212_0 rfl rfl rfl ?_
    refine zr_ls h (fun s2 h => ?_)
    refine zr_iconst C dX11_takes_23 (q := 24) (v := (1 : Int32)) (by decide) rfl ?_
    exact zr_retZI dX11_takes_24 (Or.inr rfl) h hr
  · skip
    refine zr_iconst C dX11_takes_11 (q := 12) (v := (0 : Int32)) (by decide) rfl ?_
    exact zr_retZI dX11_takes_12 (Or.inl rfl) h hr
theorem zM_ValueBenchModel_takes_met {l : Launch} {D : va_G} {cz : ClassId × ClassId} {ad : Nat → Nat} (hS : zx_So zM_sd) (hi : zx_I zM_sd ad) {s : zx_S} {v : Int32} {s1 : zx_S} (h : zM_ValueBenchModel_takes s = some (v, s1)) : zx_MI zM_sd l D cz ad yX11_takes cX11_takes 1 .boolean 0 0 [.ref (ad 0)] s v s1 := zx_metI hS hi (by decide +kernel) rfl (Nat.le_of_ble_eq_true rfl) (fun Z e1 e2 e3 e4 C hr => by subst e1 e2 e3 e4; exact zM_ValueBenchModel_takes_w (r := (v, s1)) C s hr h)
set_option maxRecDepth 100000 in
set_option maxHeartbeats 4000000 in
theorem zM_ValueBenchModel_emit_w {Z : zx_Z} (C : zx_ok zM_sd Z cX11_emit 2 RX11 0 0) {r : zx_S} (p1 : Int32) (s : zx_S) (hr : zx_rV zM_sd Z cX11_emit 2 r) (h : zM_ValueBenchModel_emit p1 s = some r) : zW zM_sd Z 2 0 [(0, .ref (zz_d Z 0)), (1, .int p1)] [] s := by
  unfold zM_ValueBenchModel_emit at h
  refine zr_aload_n C dX11_emit_0 (q := 1) rfl 0 rfl rfl ?_
  refine zr_get C dX11_emit_1 (q := 4) zM_gX11_209_0 rfl ?_
  refine zr_bipush C dX11_emit_4 (q := 6) (v := (60 : Int32)) (by decide) rfl ?_
  refine zr_icmp_ge (tgt := 19) (q := 9) C dX11_emit_6 h (by decide) rfl (fun h => ?_) (fun h => ?_)
  · skip
    refine zr_aload_n C dX11_emit_19 (q := 20) rfl 0 rfl rfl ?_
    refine zr_dup C dX11_emit_20 (q := 21) rfl rfl ?_
    refine zr_get C dX11_emit_21 (q := 24) zM_gX11_209_0 rfl ?_
    refine zr_iconst C dX11_emit_24 (q := 25) (v := (1 : Int32)) (by decide) rfl ?_
    refine zr_iadd C dX11_emit_25 (q := 26) rfl ?_
    refine zr_top h (fun x4 h => ?_)
    refine zr_put C dX11_emit_26 (q := 29) zM_pX11_209_0 rfl rfl rfl ?_
    refine zr_ls h (fun s5 h => ?_)
    exact zr_retV dX11_emit_29 h hr
  · skip
    refine zr_aload_n C dX11_emit_9 (q := 10) rfl 0 rfl rfl ?_
    refine zr_get C dX11_emit_10 (q := 13) zM_gX11_105_0 rfl ?_
    refine zr_aload_n C dX11_emit_13 (q := 14) rfl 0 rfl rfl ?_
    refine zr_get C dX11_emit_14 (q := 17) zM_gX11_209_0 rfl ?_
    refine zr_iload_n C dX11_emit_17 (q := 18) rfl 1 rfl rfl ?_
    obtain ⟨hin_18, h⟩ := zx_ck_so h
    refine zr_iast C dX11_emit_18 (q := 19) zM_a31 hin_18 rfl ?_
    refine zr_ls h (fun s1 h => ?_)
    refine zr_aload_n C dX11_emit_19 (q := 20) rfl 0 rfl rfl ?_
    refine zr_dup C dX11_emit_20 (q := 21) rfl rfl ?_
    refine zr_get C dX11_emit_21 (q := 24) zM_gX11_209_0 rfl ?_
    refine zr_iconst C dX11_emit_24 (q := 25) (v := (1 : Int32)) (by decide) rfl ?_
    refine zr_iadd C dX11_emit_25 (q := 26) rfl ?_
    refine zr_top h (fun x2 h => ?_)
    refine zr_put C dX11_emit_26 (q := 29) zM_pX11_209_0 rfl rfl rfl ?_
    refine zr_ls h (fun s3 h => ?_)
    exact zr_retV dX11_emit_29 h hr
theorem zM_ValueBenchModel_emit_met {l : Launch} {D : va_G} {cz : ClassId × ClassId} {ad : Nat → Nat} (hS : zx_So zM_sd) (hi : zx_I zM_sd ad) {p1 : Int32} {s : zx_S} {s1 : zx_S} (h : zM_ValueBenchModel_emit p1 s = some s1) : zx_MV zM_sd l D cz ad yX11_emit cX11_emit 2 0 0 [.ref (ad 0), .int p1] s s1 := zx_metV hS hi (by decide +kernel) rfl (Nat.le_of_ble_eq_true rfl) (fun Z e1 e2 e3 e4 C hr => by subst e1 e2 e3 e4; exact zM_ValueBenchModel_emit_w C p1 s hr h)
set_option maxRecDepth 100000 in
set_option maxHeartbeats 4000000 in
theorem zM_ValueBenchModel_work_w {Z : zx_Z} (C : zx_ok zM_sd Z cX11_work 3 RX11 0 0) {r : Int32} (p0 p1 p2 : Int32) (s : zx_S) (hr : zx_rI zM_sd Z cX11_work 3 .int r s) (h : zM_ValueBenchModel_work p0 p1 p2 s = some r) : zW zM_sd Z 3 0 [(0, .int p0), (1, .int p1), (2, .int p2)] [] s := by
  unfold zM_ValueBenchModel_work at h
  refine zr_iload_n C dX11_work_0 (q := 1) rfl 0 rfl rfl ?_
  by_cases e0 : p0 = (3 : Int32)
  · rw [if_pos e0] at h
    refine zr_tableIn (tgt := 56) (off := 55) C dX11_work_1 (by rw [e0]; decide) (by rw [e0]; decide) (by rw [e0] <;> exact rfl) (by decide) ?_
    refine zr_iload_n C dX11_work_56 (q := 57) rfl 1 rfl rfl ?_
    refine zr_iload_n C dX11_work_57 (q := 58) rfl 2 rfl rfl ?_
    refine zr_iadd C dX11_work_58 (q := 59) rfl ?_
    exact zr_retR dX11_work_59 h hr
  · rw [if_neg e0] at h
    by_cases e1 : p0 = (4 : Int32)
    · rw [if_pos e1] at h
      refine zr_tableIn (tgt := 60) (off := 59) C dX11_work_1 (by rw [e1]; decide) (by rw [e1]; decide) (by rw [e1] <;> exact rfl) (by decide) ?_
      refine zr_iload_n C dX11_work_60 (q := 61) rfl 1 rfl rfl ?_
      refine zr_iload_n C dX11_work_61 (q := 62) rfl 2 rfl rfl ?_
      refine zr_isub C dX11_work_62 (q := 63) rfl ?_
      exact zr_retR dX11_work_63 h hr
    · rw [if_neg e1] at h
      by_cases e2 : p0 = (5 : Int32)
      · rw [if_pos e2] at h
        refine zr_tableIn (tgt := 64) (off := 63) C dX11_work_1 (by rw [e2]; decide) (by rw [e2]; decide) (by rw [e2] <;> exact rfl) (by decide) ?_
        refine zr_iload_n C dX11_work_64 (q := 65) rfl 1 rfl rfl ?_
        refine zr_iload_n C dX11_work_65 (q := 66) rfl 2 rfl rfl ?_
        refine zr_imul C dX11_work_66 (q := 67) rfl ?_
        exact zr_retR dX11_work_67 h hr
      · rw [if_neg e2] at h
        by_cases e3 : p0 = (6 : Int32)
        · rw [if_pos e3] at h
          refine zr_tableIn (tgt := 68) (off := 67) C dX11_work_1 (by rw [e3]; decide) (by rw [e3]; decide) (by rw [e3] <;> exact rfl) (by decide) ?_
          refine zr_iload_n C dX11_work_68 (q := 69) rfl 1 rfl rfl ?_
          refine zr_iload_n C dX11_work_69 (q := 70) rfl 2 rfl rfl ?_
          refine zr_iand C dX11_work_70 (q := 71) rfl ?_
          exact zr_retR dX11_work_71 h hr
        · rw [if_neg e3] at h
          by_cases e4 : p0 = (7 : Int32)
          · rw [if_pos e4] at h
            refine zr_tableIn (tgt := 72) (off := 71) C dX11_work_1 (by rw [e4]; decide) (by rw [e4]; decide) (by rw [e4] <;> exact rfl) (by decide) ?_
            refine zr_iload_n C dX11_work_72 (q := 73) rfl 1 rfl rfl ?_
            refine zr_iload_n C dX11_work_73 (q := 74) rfl 2 rfl rfl ?_
            refine zr_ior C dX11_work_74 (q := 75) rfl ?_
            exact zr_retR dX11_work_75 h hr
          · rw [if_neg e4] at h
            by_cases e5 : p0 = (8 : Int32)
            · rw [if_pos e5] at h
              refine zr_tableIn (tgt := 76) (off := 75) C dX11_work_1 (by rw [e5]; decide) (by rw [e5]; decide) (by rw [e5] <;> exact rfl) (by decide) ?_
              refine zr_iload_n C dX11_work_76 (q := 77) rfl 1 rfl rfl ?_
              refine zr_iload_n C dX11_work_77 (q := 78) rfl 2 rfl rfl ?_
              refine zr_ixor C dX11_work_78 (q := 79) rfl ?_
              exact zr_retR dX11_work_79 h hr
            · rw [if_neg e5] at h
              by_cases e6 : p0 = (9 : Int32)
              · rw [if_pos e6] at h
                refine zr_tableIn (tgt := 80) (off := 79) C dX11_work_1 (by rw [e6]; decide) (by rw [e6]; decide) (by rw [e6] <;> exact rfl) (by decide) ?_
                refine zr_iload_n C dX11_work_80 (q := 81) rfl 1 rfl rfl ?_
                refine zr_iload_n C dX11_work_81 (q := 82) rfl 2 rfl rfl ?_
                refine zr_icmp_ne (tgt := 89) (q := 85) C dX11_work_82 h (by decide) rfl (fun h => ?_) (fun h => ?_)
                · skip
                  refine zr_iconst C dX11_work_89 (q := 90) (v := (0 : Int32)) (by decide) rfl ?_
                  exact zr_retR dX11_work_90 h hr
                · skip
                  refine zr_iconst C dX11_work_85 (q := 86) (v := (1 : Int32)) (by decide) rfl ?_
                  refine zr_goto (q := 90) C dX11_work_86 (by decide) ?_
                  exact zr_retR dX11_work_90 h hr
              · rw [if_neg e6] at h
                by_cases e7 : p0 = (10 : Int32)
                · rw [if_pos e7] at h
                  refine zr_tableIn (tgt := 91) (off := 90) C dX11_work_1 (by rw [e7]; decide) (by rw [e7]; decide) (by rw [e7] <;> exact rfl) (by decide) ?_
                  refine zr_iload_n C dX11_work_91 (q := 92) rfl 1 rfl rfl ?_
                  refine zr_iload_n C dX11_work_92 (q := 93) rfl 2 rfl rfl ?_
                  refine zr_icmp_ge (tgt := 100) (q := 96) C dX11_work_93 h (by decide) rfl (fun h => ?_) (fun h => ?_)
                  · skip
                    refine zr_iconst C dX11_work_100 (q := 101) (v := (0 : Int32)) (by decide) rfl ?_
                    exact zr_retR dX11_work_101 h hr
                  · skip
                    refine zr_iconst C dX11_work_96 (q := 97) (v := (1 : Int32)) (by decide) rfl ?_
                    refine zr_goto (q := 101) C dX11_work_97 (by decide) ?_
                    exact zr_retR dX11_work_101 h hr
                · rw [if_neg e7] at h
                  by_cases e8 : p0 = (11 : Int32)
                  · rw [if_pos e8] at h
                    refine zr_tableIn (tgt := 102) (off := 101) C dX11_work_1 (by rw [e8]; decide) (by rw [e8]; decide) (by rw [e8] <;> exact rfl) (by decide) ?_
                    refine zr_iload_n C dX11_work_102 (q := 103) rfl 1 rfl rfl ?_
                    refine zr_iload_n C dX11_work_103 (q := 104) rfl 2 rfl rfl ?_
                    refine zr_bipush C dX11_work_104 (q := 106) (v := (31 : Int32)) (by decide) rfl ?_
                    refine zr_iand C dX11_work_106 (q := 107) rfl ?_
                    refine zr_ishl C dX11_work_107 (q := 108) rfl ?_
                    exact zr_retR dX11_work_108 h hr
                  · rw [if_neg e8] at h
                    by_cases e9 : p0 = (12 : Int32)
                    · rw [if_pos e9] at h
                      refine zr_tableIn (tgt := 109) (off := 108) C dX11_work_1 (by rw [e9]; decide) (by rw [e9]; decide) (by rw [e9] <;> exact rfl) (by decide) ?_
                      refine zr_iload_n C dX11_work_109 (q := 110) rfl 1 rfl rfl ?_
                      refine zr_iload_n C dX11_work_110 (q := 111) rfl 2 rfl rfl ?_
                      refine zr_bipush C dX11_work_111 (q := 113) (v := (31 : Int32)) (by decide) rfl ?_
                      refine zr_iand C dX11_work_113 (q := 114) rfl ?_
                      refine zr_ishr C dX11_work_114 (q := 115) rfl ?_
                      exact zr_retR dX11_work_115 h hr
                    · rw [if_neg e9] at h
                      refine zr_tableOut (tgt := 116) C dX11_work_1 (by have f0 := lv_neT (a := 3) e0 (by decide); have f1 := lv_neT (a := 4) e1 (by decide); have f2 := lv_neT (a := 5) e2 (by decide); have f3 := lv_neT (a := 6) e3 (by decide); have f4 := lv_neT (a := 7) e4 (by decide); have f5 := lv_neT (a := 8) e5 (by decide); have f6 := lv_neT (a := 9) e6 (by decide); have f7 := lv_neT (a := 10) e7 (by decide); have f8 := lv_neT (a := 11) e8 (by decide); have f9 := lv_neT (a := 12) e9 (by decide); omega) (by decide) ?_
                      refine zr_iload_n C dX11_work_116 (q := 117) rfl 2 rfl rfl ?_
                      refine zr_if_ne (tgt := 124) (q := 120) C dX11_work_117 h (by decide) rfl (fun h => ?_) (fun h => ?_)
                      · skip
                        refine zr_iload_n C dX11_work_124 (q := 125) rfl 1 rfl rfl ?_
                        refine zr_iload_n C dX11_work_125 (q := 126) rfl 2 rfl rfl ?_
                        obtain ⟨hne_126, h⟩ := zx_ne_so h
                        refine zr_idiv C dX11_work_126 (q := 127) hne_126 rfl ?_
                        exact zr_retR dX11_work_127 h hr
                      · skip
                        refine zr_iconst C dX11_work_120 (q := 121) (v := (0 : Int32)) (by decide) rfl ?_
                        refine zr_goto (q := 127) C dX11_work_121 (by decide) ?_
                        exact zr_retR dX11_work_127 h hr
theorem zM_ValueBenchModel_work_met {l : Launch} {D : va_G} {cz : ClassId × ClassId} {ad : Nat → Nat} (hS : zx_So zM_sd) (hi : zx_I zM_sd ad) {p0 p1 p2 : Int32} {s : zx_S} {v : Int32} (h : zM_ValueBenchModel_work p0 p1 p2 s = some v) : zx_MI zM_sd l D cz ad yX11_work cX11_work 3 .int 0 0 [.int p0, .int p1, .int p2] s v s := zx_metI hS hi (by decide +kernel) rfl (Nat.le_of_ble_eq_true rfl) (fun Z e1 e2 e3 e4 C hr => by subst e1 e2 e3 e4; exact zM_ValueBenchModel_work_w C p0 p1 p2 s hr h)
set_option maxRecDepth 100000 in
set_option maxHeartbeats 4000000 in
theorem zM_ValueBenchModel_readAt_L3_w {Z : zx_Z} (C : zx_ok zM_sd Z cX11_readAt 5 RX11 2 47) {r : Int32 × zx_S} (v1 v2 v3 : Int32) {k35 : zx_S → Option (Int32 × zx_S)} (hr : zx_rI zM_sd Z cX11_readAt 5 .int r.1 r.2) (h35 : ∀ (s1 : zx_S), k35 s1 = some r → zW zM_sd Z 5 35 [(0, .ref (zz_d Z 0)), (1, .int v1), (2, .int v2), (3, .int v3)] [] s1) : ∀ (n : Nat) (v4 : Int32) (s : zx_S), zM_ValueBenchModel_readAt_L3 v1 v2 v3 k35 n v4 s = some r → zW zM_sd Z 5 3 [(0, .ref (zz_d Z 0)), (1, .int v1), (2, .int v2), (3, .int v3), (4, .int v4)] [] s := by
  intro n
  induction n with
  | zero => intro v4 s h; unfold zM_ValueBenchModel_readAt_L3 at h; cases h
  | succ n ih =>
    intro v4 s h
    unfold zM_ValueBenchModel_readAt_L3 at h
    refine zr_iload C dX11_readAt_3 (q := 5) 4 rfl rfl ?_
    refine zr_bipush C dX11_readAt_5 (q := 7) (v := (10 : Int32)) (by decide) rfl ?_
    refine zr_icmp_ge (tgt := 35) (q := 10) C dX11_readAt_7 h (by decide) rfl (fun h => ?_) (fun h => ?_)
    · skip
      exact zr_sub [0, 1, 2, 3] rfl (h35 s h)
    · skip
      refine zr_aload_n C dX11_readAt_10 (q := 11) rfl 0 rfl rfl ?_
      refine zr_get C dX11_readAt_11 (q := 14) zM_gX11_89_0 rfl ?_
      refine zr_iload C dX11_readAt_14 (q := 16) 4 rfl rfl ?_
      refine zr_aload_n C dX11_readAt_16 (q := 17) rfl 0 rfl rfl ?_
      refine zr_get C dX11_readAt_17 (q := 20) zM_gX11_83_0 rfl ?_
      refine zr_bipush C dX11_readAt_20 (q := 22) (v := (10 : Int32)) (by decide) rfl ?_
      refine zr_iload_n C dX11_readAt_22 (q := 23) rfl 1 rfl rfl ?_
      refine zr_imul C dX11_readAt_23 (q := 24) rfl ?_
      refine zr_iload C dX11_readAt_24 (q := 26) 4 rfl rfl ?_
      refine zr_iadd C dX11_readAt_26 (q := 27) rfl ?_
      obtain ⟨hin_27, h⟩ := zx_ck_so h
      refine zr_iald C dX11_readAt_27 (q := 28) zM_a25 hin_27 rfl ?_
      refine zr_top h (fun x1 h => ?_)
      obtain ⟨hin_28, h⟩ := zx_ck_so h
      refine zr_iast C dX11_readAt_28 (q := 29) zM_a27 hin_28 rfl ?_
      refine zr_ls h (fun s2 h => ?_)
      refine zr_iinc C dX11_readAt_29 (q := 32) h (by decide) 4 rfl (by decide) (lw := fun v4_3 => [(4, .int v4_3), (0, .ref (zz_d Z 0)), (1, .int v1), (2, .int v2), (3, .int v3)]) (fun _ => rfl) rfl (fun v4_3 h => ?_)
      refine zr_goto (q := 3) C dX11_readAt_32 (by decide) ?_
      exact zr_sub [1, 2, 3, 4, 0] rfl (ih v4_3 s2 h)
set_option maxRecDepth 100000 in
set_option maxHeartbeats 4000000 in
theorem zM_ValueBenchModel_readAt_w {Z : zx_Z} (C : zx_ok zM_sd Z cX11_readAt 5 RX11 2 47) {r : Int32 × zx_S} (p1 p2 p3 : Int32) (s : zx_S) (hr : zx_rI zM_sd Z cX11_readAt 5 .int r.1 r.2) (h : zM_ValueBenchModel_readAt p1 p2 p3 s = some r) : zW zM_sd Z 5 0 [(0, .ref (zz_d Z 0)), (1, .int p1), (2, .int p2), (3, .int p3)] [] s := by
  unfold zM_ValueBenchModel_readAt at h
  refine zr_iconst C dX11_readAt_0 (q := 1) (v := (0 : Int32)) (by decide) rfl ?_
  refine zr_istore C dX11_readAt_1 (q := 3) (by decide) (lv' := [(4, .int (0 : Int32)), (0, .ref (zz_d Z 0)), (1, .int p1), (2, .int p2), (3, .int p3)]) rfl rfl ?_
  refine zr_sub [1, 2, 3, 4, 0] rfl (zM_ValueBenchModel_readAt_L3_w C p1 p2 p3 hr (fun s4 h => ?_) 10000 (0 : Int32) s h)
  · skip
    refine zr_aload_n C dX11_readAt_35 (q := 36) rfl 0 rfl rfl ?_
    refine zr_iload_n C dX11_readAt_36 (q := 37) rfl 1 rfl rfl ?_
    refine zr_iload_n C dX11_readAt_37 (q := 38) rfl 2 rfl rfl ?_
    refine zr_iconst C dX11_readAt_38 (q := 39) (v := (0 : Int32)) (by decide) rfl ?_
    obtain ⟨s5, hc_39, h⟩ := zx_b1_so h
    refine zr_cvV (q := 42) C (As := [.int p1, .int p2, .int (0 : Int32)]) (k := 0) (rest := []) dX11_readAt_39 (zM_ValueBenchModel_through_met C.2.2.2.2.1 C.2.2.2.1 hc_39) zM_vX11_162 zM_o0 ⟨by decide, by decide⟩ rfl (Nat.le_of_ble_eq_true rfl) rfl rfl ?_
    refine zr_aload_n C dX11_readAt_42 (q := 43) rfl 0 rfl rfl ?_
    refine zr_get C dX11_readAt_43 (q := 46) zM_gX11_89_0 rfl ?_
    refine zr_iload_n C dX11_readAt_46 (q := 47) rfl 3 rfl rfl ?_
    obtain ⟨hin_47, h⟩ := zx_ck_so h
    refine zr_iald C dX11_readAt_47 (q := 48) zM_a27 hin_47 rfl ?_
    exact zr_retI dX11_readAt_48 h hr
theorem zM_ValueBenchModel_readAt_met {l : Launch} {D : va_G} {cz : ClassId × ClassId} {ad : Nat → Nat} (hS : zx_So zM_sd) (hi : zx_I zM_sd ad) {p1 p2 p3 : Int32} {s : zx_S} {v : Int32} {s1 : zx_S} (h : zM_ValueBenchModel_readAt p1 p2 p3 s = some (v, s1)) : zx_MI zM_sd l D cz ad yX11_readAt cX11_readAt 5 .int 2 47 [.ref (ad 0), .int p1, .int p2, .int p3] s v s1 := zx_metI hS hi (by decide +kernel) rfl (Nat.le_of_ble_eq_true rfl) (fun Z e1 e2 e3 e4 C hr => by subst e1 e2 e3 e4; exact zM_ValueBenchModel_readAt_w (r := (v, s1)) C p1 p2 p3 s hr h)
set_option maxRecDepth 100000 in
set_option maxHeartbeats 4000000 in
theorem zM_ValueBenchModel_leader_L3_w {Z : zx_Z} (C : zx_ok zM_sd Z cX11_leader 5 RX11 2 45) {r : Int32} (v1 v2 v3 : Int32) (s : zx_S) {k49 : Int32 → Option Int32} (hr : zx_rI zM_sd Z cX11_leader 5 .int r s) (h49 : ∀ (a0 : Int32), k49 a0 = some r → zW zM_sd Z 5 49 [(4, .int a0)] [] s) : ∀ (n : Nat) (v4 : Int32), zM_ValueBenchModel_leader_L3 v1 v2 v3 s k49 n v4 = some r → zW zM_sd Z 5 3 [(0, .ref (zz_d Z 0)), (1, .int v1), (2, .int v2), (3, .int v3), (4, .int v4)] [] s := by
  intro n
  induction n with
  | zero => intro v4 h; unfold zM_ValueBenchModel_leader_L3 at h; cases h
  | succ n ih =>
    intro v4 h
    unfold zM_ValueBenchModel_leader_L3 at h
    refine zr_iload C dX11_leader_3 (q := 5) 4 rfl rfl ?_
    refine zr_aload_n C dX11_leader_5 (q := 6) rfl 0 rfl rfl ?_
    refine zr_get C dX11_leader_6 (q := 9) zM_gX11_155_0 rfl ?_
    refine zr_icmp_ge (tgt := 58) (q := 12) C dX11_leader_9 h (by decide) rfl (fun h => ?_) (fun h => ?_)
    · skip
      refine zr_iconst C dX11_leader_58 (q := 59) (v := (-1 : Int32)) (by decide) rfl ?_
      exact zr_retR dX11_leader_59 h hr
    · skip
      refine zr_aload_n C dX11_leader_12 (q := 13) rfl 0 rfl rfl ?_
      refine zr_get C dX11_leader_13 (q := 16) zM_gX11_92_0 rfl ?_
      refine zr_iload C dX11_leader_16 (q := 18) 4 rfl rfl ?_
      obtain ⟨hin_18, h⟩ := zx_ck_so h
      refine zr_iald C dX11_leader_18 (q := 19) zM_a28 hin_18 rfl ?_
      refine zr_aload_n C dX11_leader_19 (q := 20) rfl 0 rfl rfl ?_
      refine zr_get C dX11_leader_20 (q := 23) zM_gX11_92_0 rfl ?_
      refine zr_iload_n C dX11_leader_23 (q := 24) rfl 1 rfl rfl ?_
      obtain ⟨hin_24, h⟩ := zx_ck_so h
      refine zr_iald C dX11_leader_24 (q := 25) zM_a28 hin_24 rfl ?_
      refine zr_icmp_ne (tgt := 52) (q := 28) C dX11_leader_25 h (by decide) rfl (fun h => ?_) (fun h => ?_)
      · skip
        refine zr_iinc C dX11_leader_52 (q := 55) h (by decide) 4 rfl (by decide) (lw := fun v4_4 => [(4, .int v4_4), (0, .ref (zz_d Z 0)), (1, .int v1), (2, .int v2), (3, .int v3)]) (fun _ => rfl) rfl (fun v4_4 h => ?_)
        refine zr_goto (q := 3) C dX11_leader_55 (by decide) ?_
        exact zr_sub [1, 2, 3, 4, 0] rfl (ih v4_4 h)
      · skip
        refine zr_aload_n C dX11_leader_28 (q := 29) rfl 0 rfl rfl ?_
        refine zr_get C dX11_leader_29 (q := 32) zM_gX11_98_0 rfl ?_
        refine zr_iload C dX11_leader_32 (q := 34) 4 rfl rfl ?_
        obtain ⟨hin_34, h⟩ := zx_ck_so h
        refine zr_zald C dX11_leader_34 (q := 35) zM_a30 hin_34 rfl ?_
        refine zr_if_ne (tgt := 52) (q := 38) C dX11_leader_35 h (by decide) rfl (fun h => ?_) (fun h => ?_)
        · skip
          refine zr_iinc C dX11_leader_52 (q := 55) h (by decide) 4 rfl (by decide) (lw := fun v4_3 => [(4, .int v4_3), (0, .ref (zz_d Z 0)), (1, .int v1), (2, .int v2), (3, .int v3)]) (fun _ => rfl) rfl (fun v4_3 h => ?_)
          refine zr_goto (q := 3) C dX11_leader_55 (by decide) ?_
          exact zr_sub [1, 2, 3, 4, 0] rfl (ih v4_3 h)
        · skip
          refine zr_aload_n C dX11_leader_38 (q := 39) rfl 0 rfl rfl ?_
          refine zr_iload C dX11_leader_39 (q := 41) 4 rfl rfl ?_
          refine zr_iload_n C dX11_leader_41 (q := 42) rfl 2 rfl rfl ?_
          refine zr_iload_n C dX11_leader_42 (q := 43) rfl 3 rfl rfl ?_
          obtain ⟨r1, hc_43, h⟩ := zx_b1_so h
          refine zr_cvI (q := 46) C (As := [.int v4, .int v2, .int v3]) (k := 0) (rest := []) dX11_leader_43 (zM_ValueBenchModel_isAhead_met C.2.2.2.2.1 C.2.2.2.1 hc_43) zM_vX11_179 zM_o0 ⟨by decide, by decide⟩ rfl (Nat.le_of_ble_eq_true rfl) rfl rfl ?_
          refine zr_if_eq (tgt := 52) (q := 49) C dX11_leader_46 h (by decide) rfl (fun h => ?_) (fun h => ?_)
          · skip
            refine zr_iinc C dX11_leader_52 (q := 55) h (by decide) 4 rfl (by decide) (lw := fun v4_2 => [(4, .int v4_2), (0, .ref (zz_d Z 0)), (1, .int v1), (2, .int v2), (3, .int v3)]) (fun _ => rfl) rfl (fun v4_2 h => ?_)
            refine zr_goto (q := 3) C dX11_leader_55 (by decide) ?_
            exact zr_sub [1, 2, 3, 4, 0] rfl (ih v4_2 h)
          · skip
            exact zr_sub [4] rfl (h49 v4 h)
set_option maxRecDepth 100000 in
set_option maxHeartbeats 4000000 in
theorem zM_ValueBenchModel_leader_w {Z : zx_Z} (C : zx_ok zM_sd Z cX11_leader 5 RX11 2 45) {r : Int32} (p1 p2 p3 : Int32) (s : zx_S) (hr : zx_rI zM_sd Z cX11_leader 5 .int r s) (h : zM_ValueBenchModel_leader p1 p2 p3 s = some r) : zW zM_sd Z 5 0 [(0, .ref (zz_d Z 0)), (1, .int p1), (2, .int p2), (3, .int p3)] [] s := by
  unfold zM_ValueBenchModel_leader at h
  refine zr_iconst C dX11_leader_0 (q := 1) (v := (0 : Int32)) (by decide) rfl ?_
  refine zr_istore C dX11_leader_1 (q := 3) (by decide) (lv' := [(4, .int (0 : Int32)), (0, .ref (zz_d Z 0)), (1, .int p1), (2, .int p2), (3, .int p3)]) rfl rfl ?_
  refine zr_sub [1, 2, 3, 4, 0] rfl (zM_ValueBenchModel_leader_L3_w C p1 p2 p3 s hr (fun v4_5 h => ?_) 10000 (0 : Int32) h)
  · skip
    refine zr_iload C dX11_leader_49 (q := 51) 0 rfl rfl ?_
    exact zr_retR dX11_leader_51 h hr
theorem zM_ValueBenchModel_leader_met {l : Launch} {D : va_G} {cz : ClassId × ClassId} {ad : Nat → Nat} (hS : zx_So zM_sd) (hi : zx_I zM_sd ad) {p1 p2 p3 : Int32} {s : zx_S} {v : Int32} (h : zM_ValueBenchModel_leader p1 p2 p3 s = some v) : zx_MI zM_sd l D cz ad yX11_leader cX11_leader 5 .int 2 45 [.ref (ad 0), .int p1, .int p2, .int p3] s v s := zx_metI hS hi (by decide +kernel) rfl (Nat.le_of_ble_eq_true rfl) (fun Z e1 e2 e3 e4 C hr => by subst e1 e2 e3 e4; exact zM_ValueBenchModel_leader_w C p1 p2 p3 s hr h)
set_option maxRecDepth 100000 in
set_option maxHeartbeats 4000000 in
theorem zM_ValueBenchModel_predecessorAt_L5_w {Z : zx_Z} (C : zx_ok zM_sd Z cX11_predecessorAt 5 RX11 2 44) {r : Int32} (v1 v2 : Int32) (s : zx_S) {k46 : Int32 → Option Int32} (hr : zx_rI zM_sd Z cX11_predecessorAt 5 .int r s) (h46 : ∀ (a0 : Int32), k46 a0 = some r → zW zM_sd Z 5 46 [(4, .int a0)] [] s) : ∀ (n : Nat) (v3 : Int32) (v4 : Int32), zM_ValueBenchModel_predecessorAt_L5 v1 v2 s k46 n v3 v4 = some r → zW zM_sd Z 5 5 [(0, .ref (zz_d Z 0)), (1, .int v1), (2, .int v2), (3, .int v3), (4, .int v4)] [] s := by
  intro n
  induction n with
  | zero => intro v3 v4 h; unfold zM_ValueBenchModel_predecessorAt_L5 at h; cases h
  | succ n ih =>
    intro v3 v4 h
    unfold zM_ValueBenchModel_predecessorAt_L5 at h
    refine zr_iload C dX11_predecessorAt_5 (q := 7) 4 rfl rfl ?_
    refine zr_aload_n C dX11_predecessorAt_7 (q := 8) rfl 0 rfl rfl ?_
    refine zr_get C dX11_predecessorAt_8 (q := 11) zM_gX11_120_0 rfl ?_
    refine zr_icmp_ge (tgt := 58) (q := 14) C dX11_predecessorAt_11 h (by decide) rfl (fun h => ?_) (fun h => ?_)
    · skip
      refine zr_iconst C dX11_predecessorAt_58 (q := 59) (v := (-1 : Int32)) (by decide) rfl ?_
      exact zr_retR dX11_predecessorAt_59 h hr
    · skip
      refine zr_iload_n C dX11_predecessorAt_14 (q := 15) rfl 2 rfl rfl ?_
      refine zr_if_lt (tgt := 58) (q := 18) C dX11_predecessorAt_15 h (by decide) rfl (fun h => ?_) (fun h => ?_)
      · skip
        refine zr_iconst C dX11_predecessorAt_58 (q := 59) (v := (-1 : Int32)) (by decide) rfl ?_
        exact zr_retR dX11_predecessorAt_59 h hr
      · skip
        refine zr_aload_n C dX11_predecessorAt_18 (q := 19) rfl 0 rfl rfl ?_
        refine zr_get C dX11_predecessorAt_19 (q := 22) zM_gX11_37_0 rfl ?_
        refine zr_iload C dX11_predecessorAt_22 (q := 24) 4 rfl rfl ?_
        obtain ⟨hin_24, h⟩ := zx_ck_so h
        refine zr_zald C dX11_predecessorAt_24 (q := 25) zM_a10 hin_24 rfl ?_
        refine zr_if_eq (tgt := 52) (q := 28) C dX11_predecessorAt_25 h (by decide) rfl (fun h => ?_) (fun h => ?_)
        · skip
          refine zr_iinc C dX11_predecessorAt_52 (q := 55) h (by decide) 4 rfl (by decide) (lw := fun v4_5 => [(4, .int v4_5), (0, .ref (zz_d Z 0)), (1, .int v1), (2, .int v2), (3, .int v3)]) (fun _ => rfl) rfl (fun v4_5 h => ?_)
          refine zr_goto (q := 5) C dX11_predecessorAt_55 (by decide) ?_
          exact zr_sub [1, 2, 3, 4, 0] rfl (ih v3 v4_5 h)
        · skip
          refine zr_aload_n C dX11_predecessorAt_28 (q := 29) rfl 0 rfl rfl ?_
          refine zr_iload C dX11_predecessorAt_29 (q := 31) 4 rfl rfl ?_
          refine zr_iload_n C dX11_predecessorAt_31 (q := 32) rfl 1 rfl rfl ?_
          obtain ⟨r1, hc_32, h⟩ := zx_b1_so h
          refine zr_cvI (q := 35) C (As := [.int v4, .int v1]) (k := 0) (rest := []) dX11_predecessorAt_32 (zM_ValueBenchModel_leads_met C.2.2.2.2.1 C.2.2.2.1 hc_32) zM_vX11_141 zM_o0 ⟨by decide, by decide⟩ rfl (Nat.le_of_ble_eq_true rfl) rfl rfl ?_
          refine zr_if_ne (tgt := 41) (q := 38) C dX11_predecessorAt_35 h (by decide) rfl (fun h => ?_) (fun h => ?_)
          · skip
            refine zr_iload_n C dX11_predecessorAt_41 (q := 42) rfl 3 rfl rfl ?_
            refine zr_iload_n C dX11_predecessorAt_42 (q := 43) rfl 2 rfl rfl ?_
            refine zr_icmp_ne (tgt := 49) (q := 46) C dX11_predecessorAt_43 h (by decide) rfl (fun h => ?_) (fun h => ?_)
            · skip
              refine zr_iinc C dX11_predecessorAt_49 (q := 52) h (by decide) 3 rfl (by decide) (lw := fun v3_3 => [(3, .int v3_3), (0, .ref (zz_d Z 0)), (1, .int v1), (2, .int v2), (4, .int v4)]) (fun _ => rfl) rfl (fun v3_3 h => ?_)
              refine zr_iinc C dX11_predecessorAt_52 (q := 55) h (by decide) 4 rfl (by decide) (lw := fun v4_4 => [(4, .int v4_4), (3, .int v3_3), (0, .ref (zz_d Z 0)), (1, .int v1), (2, .int v2)]) (fun _ => rfl) rfl (fun v4_4 h => ?_)
              refine zr_goto (q := 5) C dX11_predecessorAt_55 (by decide) ?_
              exact zr_sub [2, 3, 4, 1, 0] rfl (ih v3_3 v4_4 h)
            · skip
              exact zr_sub [4] rfl (h46 v4 h)
          · skip
            refine zr_goto (q := 52) C dX11_predecessorAt_38 (by decide) ?_
            refine zr_iinc C dX11_predecessorAt_52 (q := 55) h (by decide) 4 rfl (by decide) (lw := fun v4_2 => [(4, .int v4_2), (0, .ref (zz_d Z 0)), (1, .int v1), (2, .int v2), (3, .int v3)]) (fun _ => rfl) rfl (fun v4_2 h => ?_)
            refine zr_goto (q := 5) C dX11_predecessorAt_55 (by decide) ?_
            exact zr_sub [1, 2, 3, 4, 0] rfl (ih v3 v4_2 h)
set_option maxRecDepth 100000 in
set_option maxHeartbeats 4000000 in
theorem zM_ValueBenchModel_predecessorAt_w {Z : zx_Z} (C : zx_ok zM_sd Z cX11_predecessorAt 5 RX11 2 44) {r : Int32} (p1 p2 : Int32) (s : zx_S) (hr : zx_rI zM_sd Z cX11_predecessorAt 5 .int r s) (h : zM_ValueBenchModel_predecessorAt p1 p2 s = some r) : zW zM_sd Z 5 0 [(0, .ref (zz_d Z 0)), (1, .int p1), (2, .int p2)] [] s := by
  unfold zM_ValueBenchModel_predecessorAt at h
  refine zr_iconst C dX11_predecessorAt_0 (q := 1) (v := (0 : Int32)) (by decide) rfl ?_
  refine zr_istore_n C dX11_predecessorAt_1 (q := 2) rfl (by decide) (lv' := [(3, .int (0 : Int32)), (0, .ref (zz_d Z 0)), (1, .int p1), (2, .int p2)]) rfl rfl ?_
  refine zr_iconst C dX11_predecessorAt_2 (q := 3) (v := (0 : Int32)) (by decide) rfl ?_
  refine zr_istore C dX11_predecessorAt_3 (q := 5) (by decide) (lv' := [(4, .int (0 : Int32)), (3, .int (0 : Int32)), (0, .ref (zz_d Z 0)), (1, .int p1), (2, .int p2)]) rfl rfl ?_
  refine zr_sub [2, 3, 4, 1, 0] rfl (zM_ValueBenchModel_predecessorAt_L5_w C p1 p2 s hr (fun v4_6 h => ?_) 10000 (0 : Int32) (0 : Int32) h)
  · skip
    refine zr_iload C dX11_predecessorAt_46 (q := 48) 0 rfl rfl ?_
    exact zr_retR dX11_predecessorAt_48 h hr
theorem zM_ValueBenchModel_predecessorAt_met {l : Launch} {D : va_G} {cz : ClassId × ClassId} {ad : Nat → Nat} (hS : zx_So zM_sd) (hi : zx_I zM_sd ad) {p1 p2 : Int32} {s : zx_S} {v : Int32} (h : zM_ValueBenchModel_predecessorAt p1 p2 s = some v) : zx_MI zM_sd l D cz ad yX11_predecessorAt cX11_predecessorAt 5 .int 2 44 [.ref (ad 0), .int p1, .int p2] s v s := zx_metI hS hi (by decide +kernel) rfl (Nat.le_of_ble_eq_true rfl) (fun Z e1 e2 e3 e4 C hr => by subst e1 e2 e3 e4; exact zM_ValueBenchModel_predecessorAt_w C p1 p2 s hr h)
set_option maxRecDepth 100000 in
set_option maxHeartbeats 4000000 in
theorem zM_ValueBenchModel_ledOperand_w {Z : zx_Z} (C : zx_ok zM_sd Z cX11_ledOperand 6 RX11 3 69) {r : Int32} (p1 p2 : Int32) (s : zx_S) (hr : zx_rI zM_sd Z cX11_ledOperand 6 .int r s) (h : zM_ValueBenchModel_ledOperand p1 p2 s = some r) : zW zM_sd Z 6 0 [(0, .ref (zz_d Z 0)), (1, .int p1), (2, .int p2)] [] s := by
  unfold zM_ValueBenchModel_ledOperand at h
  refine zr_aload_n C dX11_ledOperand_0 (q := 1) rfl 0 rfl rfl ?_
  refine zr_get C dX11_ledOperand_1 (q := 4) zM_gX11_71_0 rfl ?_
  refine zr_bipush C dX11_ledOperand_4 (q := 6) (v := (20 : Int32)) (by decide) rfl ?_
  refine zr_iload_n C dX11_ledOperand_6 (q := 7) rfl 1 rfl rfl ?_
  refine zr_imul C dX11_ledOperand_7 (q := 8) rfl ?_
  refine zr_iload_n C dX11_ledOperand_8 (q := 9) rfl 2 rfl rfl ?_
  refine zr_iadd C dX11_ledOperand_9 (q := 10) rfl ?_
  obtain ⟨hin_10, h⟩ := zx_ck_so h
  refine zr_iald C dX11_ledOperand_10 (q := 11) zM_a21 hin_10 rfl ?_
  refine zr_top h (fun v3_1 h => ?_)
  refine zr_istore_n C dX11_ledOperand_11 (q := 12) rfl (by decide) (lv' := [(3, .int v3_1), (0, .ref (zz_d Z 0)), (1, .int p1), (2, .int p2)]) rfl rfl ?_
  refine zr_aload_n C dX11_ledOperand_12 (q := 13) rfl 1 rfl rfl ?_
  refine zr_get C dX11_ledOperand_13 (q := 16) zM_gX11_56_0 rfl ?_
  refine zr_iload_n C dX11_ledOperand_16 (q := 17) rfl 2 rfl rfl ?_
  obtain ⟨hin_17, h⟩ := zx_ck_so h
  refine zr_iald C dX11_ledOperand_17 (q := 18) zM_a16 hin_17 rfl ?_
  refine zr_bipush C dX11_ledOperand_18 (q := 20) (v := (15 : Int32)) (by decide) rfl ?_
  refine zr_icmp_eq (tgt := 41) (q := 23) C dX11_ledOperand_20 h (by decide) rfl (fun h => ?_) (fun h => ?_)
  · skip
    refine zr_aload_n C dX11_ledOperand_41 (q := 42) rfl 1 rfl rfl ?_
    refine zr_get C dX11_ledOperand_42 (q := 45) zM_gX11_59_0 rfl ?_
    refine zr_iload_n C dX11_ledOperand_45 (q := 46) rfl 2 rfl rfl ?_
    obtain ⟨hin_46, h⟩ := zx_ck_so h
    refine zr_iald C dX11_ledOperand_46 (q := 47) zM_a17 hin_46 rfl ?_
    refine zr_top h (fun v4_3 h => ?_)
    refine zr_istore C dX11_ledOperand_47 (q := 49) (by decide) (lv' := [(4, .int v4_3), (3, .int v3_1), (0, .ref (zz_d Z 0)), (1, .int p1), (2, .int p2)]) rfl rfl ?_
    refine zr_aload_n C dX11_ledOperand_49 (q := 50) rfl 2 rfl rfl ?_
    refine zr_iload C dX11_ledOperand_50 (q := 52) 0 rfl rfl ?_
    refine zr_iload_n C dX11_ledOperand_52 (q := 53) rfl 4 rfl rfl ?_
    obtain ⟨r4, hc_53, h⟩ := zx_b1_so h
    refine zr_cvI (q := 56) C (As := [.int v4_3, .int p2]) (k := 0) (rest := []) dX11_ledOperand_53 (zM_ValueBenchModel_predecessorAt_met C.2.2.2.2.1 C.2.2.2.1 hc_53) zM_vX11_205 zM_o0 ⟨by decide, by decide⟩ rfl (Nat.le_of_ble_eq_true rfl) rfl rfl ?_
    refine zr_istore C dX11_ledOperand_56 (q := 58) (by decide) (lv' := [(5, .int r4), (4, .int v4_3), (3, .int v3_1), (0, .ref (zz_d Z 0)), (1, .int p1), (2, .int p2)]) rfl rfl ?_
    refine zr_iload C dX11_ledOperand_58 (q := 60) 0 rfl rfl ?_
    refine zr_if_ge (tgt := 67) (q := 63) C dX11_ledOperand_60 h (by decide) rfl (fun h => ?_) (fun h => ?_)
    · skip
      refine zr_aload_n C dX11_ledOperand_67 (q := 68) rfl 3 rfl rfl ?_
      refine zr_iload_n C dX11_ledOperand_68 (q := 69) rfl 2 rfl rfl ?_
      refine zr_iload C dX11_ledOperand_69 (q := 71) 0 rfl rfl ?_
      refine zr_aload_n C dX11_ledOperand_71 (q := 72) rfl 3 rfl rfl ?_
      refine zr_get C dX11_ledOperand_72 (q := 75) zM_gX11_22_0 rfl ?_
      refine zr_iload C dX11_ledOperand_75 (q := 77) 0 rfl rfl ?_
      obtain ⟨hin_77, h⟩ := zx_ck_so h
      refine zr_iald C dX11_ledOperand_77 (q := 78) zM_a5 hin_77 rfl ?_
      obtain ⟨r5, hc_78, h⟩ := zx_b1_so h
      refine zr_cvI (q := 81) C (As := [.int v3_1, .int r4, .int (s 5 (r4).toNatClampNeg)]) (k := 0) (rest := []) dX11_ledOperand_78 (zM_ValueBenchModel_leader_met C.2.2.2.2.1 C.2.2.2.1 hc_78) zM_vX11_201 zM_o0 ⟨by decide, by decide⟩ rfl (Nat.le_of_ble_eq_true rfl) rfl rfl ?_
      exact zr_retR dX11_ledOperand_81 h hr
    · skip
      refine zr_iconst C dX11_ledOperand_63 (q := 64) (v := (0 : Int32)) (by decide) rfl ?_
      refine zr_goto (q := 81) C dX11_ledOperand_64 (by decide) ?_
      exact zr_retR dX11_ledOperand_81 h hr
  · skip
    refine zr_aload_n C dX11_ledOperand_23 (q := 24) rfl 1 rfl rfl ?_
    refine zr_iload_n C dX11_ledOperand_24 (q := 25) rfl 0 rfl rfl ?_
    refine zr_aload_n C dX11_ledOperand_25 (q := 26) rfl 1 rfl rfl ?_
    refine zr_get C dX11_ledOperand_26 (q := 29) zM_gX11_59_0 rfl ?_
    refine zr_iload_n C dX11_ledOperand_29 (q := 30) rfl 2 rfl rfl ?_
    obtain ⟨hin_30, h⟩ := zx_ck_so h
    refine zr_iald C dX11_ledOperand_30 (q := 31) zM_a17 hin_30 rfl ?_
    refine zr_aload_n C dX11_ledOperand_31 (q := 32) rfl 1 rfl rfl ?_
    refine zr_get C dX11_ledOperand_32 (q := 35) zM_gX11_68_0 rfl ?_
    refine zr_iload_n C dX11_ledOperand_35 (q := 36) rfl 2 rfl rfl ?_
    obtain ⟨hin_36, h⟩ := zx_ck_so h
    refine zr_iald C dX11_ledOperand_36 (q := 37) zM_a20 hin_36 rfl ?_
    obtain ⟨r2, hc_37, h⟩ := zx_b1_so h
    refine zr_cvI (q := 40) C (As := [.int v3_1, .int (s 17 (p1).toNatClampNeg), .int (s 20 (p1).toNatClampNeg)]) (k := 0) (rest := []) dX11_ledOperand_37 (zM_ValueBenchModel_leader_met C.2.2.2.2.1 C.2.2.2.1 hc_37) zM_vX11_201 zM_o0 ⟨by decide, by decide⟩ rfl (Nat.le_of_ble_eq_true rfl) rfl rfl ?_
    exact zr_retR dX11_ledOperand_40 h hr
theorem zM_ValueBenchModel_ledOperand_met {l : Launch} {D : va_G} {cz : ClassId × ClassId} {ad : Nat → Nat} (hS : zx_So zM_sd) (hi : zx_I zM_sd ad) {p1 p2 : Int32} {s : zx_S} {v : Int32} (h : zM_ValueBenchModel_ledOperand p1 p2 s = some v) : zx_MI zM_sd l D cz ad yX11_ledOperand cX11_ledOperand 6 .int 3 69 [.ref (ad 0), .int p1, .int p2] s v s := zx_metI hS hi (by decide +kernel) rfl (Nat.le_of_ble_eq_true rfl) (fun Z e1 e2 e3 e4 C hr => by subst e1 e2 e3 e4; exact zM_ValueBenchModel_ledOperand_w C p1 p2 s hr h)
