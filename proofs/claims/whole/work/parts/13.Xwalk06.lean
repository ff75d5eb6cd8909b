set_option maxRecDepth 100000 in
set_option maxHeartbeats 4000000 in
theorem zX_ValueBench_emitted_w {Z : zx_Z} (C : zx_ok zX_sd Z cX10_emitted 2 RX10 0 0) {r : Int32} (p1 : Int32) (s : zx_S) (hr : zx_rI zX_sd Z cX10_emitted 2 .int r s) (h : zX_ValueBench_emitted p1 s = some r) : zW zX_sd Z 2 0 [(0, .ref (zz_d Z 0)), (1, .int p1)] [] s := by
  unfold zX_ValueBench_emitted at h
  refine zr_iload_n C dX10_emitted_0 (q := 1) rfl 1 rfl rfl ?_
  refine zr_if_lt (tgt := 33) (q := 4) C dX10_emitted_1 h (by decide) rfl (fun h => ?_) (fun h => ?_)
  · skip
    refine zr_iconst C dX10_emitted_33 (q := 34) (v := (0 : Int32)) (by decide) rfl ?_
    exact zr_retR dX10_emitted_34 h hr
  · skip
    refine zr_iload_n C dX10_emitted_4 (q := 5) rfl 1 rfl rfl ?_
    refine zr_bipush C dX10_emitted_5 (q := 7) (v := (60 : Int32)) (by decide) rfl ?_
    refine zr_icmp_ge (tgt := 33) (q := 10) C dX10_emitted_7 h (by decide) rfl (fun h => ?_) (fun h => ?_)
    · skip
      refine zr_iconst C dX10_emitted_33 (q := 34) (v := (0 : Int32)) (by decide) rfl ?_
      exact zr_retR dX10_emitted_34 h hr
    · skip
      refine zr_iload_n C dX10_emitted_10 (q := 11) rfl 1 rfl rfl ?_
      refine zr_aload_n C dX10_emitted_11 (q := 12) rfl 0 rfl rfl ?_
      refine zr_get C dX10_emitted_12 (q := 15) zX_gX10_67_0 rfl ?_
      refine zr_get C dX10_emitted_15 (q := 18) zX_gX10_218_50 rfl ?_
      refine zr_icmp_ge (tgt := 33) (q := 21) C dX10_emitted_18 h (by decide) rfl (fun h => ?_) (fun h => ?_)
      · skip
        refine zr_iconst C dX10_emitted_33 (q := 34) (v := (0 : Int32)) (by decide) rfl ?_
        exact zr_retR dX10_emitted_34 h hr
      · skip
        refine zr_aload_n C dX10_emitted_21 (q := 22) rfl 0 rfl rfl ?_
        refine zr_get C dX10_emitted_22 (q := 25) zX_gX10_67_0 rfl ?_
        refine zr_get C dX10_emitted_25 (q := 28) zX_gX10_224_50 rfl ?_
        refine zr_iload_n C dX10_emitted_28 (q := 29) rfl 1 rfl rfl ?_
        obtain ⟨hin_29, h⟩ := zx_ck_so h
        refine zr_iald C dX10_emitted_29 (q := 30) zX_a52 hin_29 rfl ?_
        refine zr_goto (q := 34) C dX10_emitted_30 (by decide) ?_
        exact zr_retR dX10_emitted_34 h hr
theorem zX_ValueBench_emitted_met {l : Launch} {D : va_G} {cz : ClassId × ClassId} {ad : Nat → Nat} (hS : zx_So zX_sd) (hi : zx_I zX_sd ad) {p1 : Int32} {s : zx_S} {v : Int32} (h : zX_ValueBench_emitted p1 s = some v) : zx_MI zX_sd l D cz ad yX10_emitted cX10_emitted 2 .int 0 0 [.ref (ad 0), .int p1] s v s := zx_metI hS hi (by decide +kernel) rfl (Nat.le_of_ble_eq_true rfl) (fun Z e1 e2 e3 e4 C hr => by subst e1 e2 e3 e4; exact zX_ValueBench_emitted_w C p1 s hr h)
set_option maxRecDepth 100000 in
set_option maxHeartbeats 4000000 in
theorem zX_Values_allChoices_L4_w {Z : zx_Z} (C : zx_ok zX_sd Z cX9_allChoices 3 RX9 0 0) {r : Int32} (s : zx_S) {k25 : Int32 → Option Int32} (hr : zx_rI zX_sd Z cX9_allChoices 3 .int r s) (h25 : ∀ (a0 : Int32), k25 a0 = some r → zW zX_sd Z 3 25 [(1, .int a0)] [] s) : ∀ (n : Nat) (v1 : Int32) (v2 : Int32), zX_Values_allChoices_L4 s k25 n v1 v2 = some r → zW zX_sd Z 3 4 [(0, .ref (zz_d Z 18)), (1, .int v1), (2, .int v2)] [] s := by
  intro n
  induction n with
  | zero => intro v1 v2 h; unfold zX_Values_allChoices_L4 at h; cases h
  | succ n ih =>
    intro v1 v2 h
    unfold zX_Values_allChoices_L4 at h
    refine zr_iload_n C dX9_allChoices_4 (q := 5) rfl 2 rfl rfl ?_
    refine zr_bipush C dX9_allChoices_5 (q := 7) (v := (16 : Int32)) (by decide) rfl ?_
    refine zr_icmp_ge (tgt := 25) (q := 10) C dX9_allChoices_7 h (by decide) rfl (fun h => ?_) (fun h => ?_)
    · skip
      exact zr_sub [1] rfl (h25 v1 h)
    · skip
      refine zr_iload_n C dX9_allChoices_10 (q := 11) rfl 1 rfl rfl ?_
      refine zr_aload_n C dX9_allChoices_11 (q := 12) rfl 0 rfl rfl ?_
      refine zr_get C dX9_allChoices_12 (q := 15) zX_gX9_40_18 rfl ?_
      refine zr_iload_n C dX9_allChoices_15 (q := 16) rfl 2 rfl rfl ?_
      obtain ⟨hin_16, h⟩ := zx_ck_so h
      refine zr_iald C dX9_allChoices_16 (q := 17) zX_a30 hin_16 rfl ?_
      refine zr_iadd C dX9_allChoices_17 (q := 18) rfl ?_
      refine zr_top h (fun v1_1 h => ?_)
      refine zr_istore_n C dX9_allChoices_18 (q := 19) rfl (by decide) (lv' := [(1, .int v1_1), (0, .ref (zz_d Z 18)), (2, .int v2)]) rfl rfl ?_
      refine zr_iinc C dX9_allChoices_19 (q := 22) h (by decide) 2 rfl (by decide) (lw := fun v2_2 => [(2, .int v2_2), (1, .int v1_1), (0, .ref (zz_d Z 18))]) (fun _ => rfl) rfl (fun v2_2 h => ?_)
      refine zr_goto (q := 4) C dX9_allChoices_22 (by decide) ?_
      exact zr_sub [2, 1, 0] rfl (ih v1_1 v2_2 h)
set_option maxRecDepth 100000 in
set_option maxHeartbeats 4000000 in
theorem zX_Values_allChoices_w {Z : zx_Z} (C : zx_ok zX_sd Z cX9_allChoices 3 RX9 0 0) {r : Int32} (s : zx_S) (hr : zx_rI zX_sd Z cX9_allChoices 3 .int r s) (h : zX_Values_allChoices s = some r) : zW zX_sd Z 3 0 [(0, .ref (zz_d Z 18))] [] s := by
  unfold zX_Values_allChoices at h
  refine zr_iconst C dX9_allChoices_0 (q := 1) (v := (0 : Int32)) (by decide) rfl ?_
  refine zr_istore_n C dX9_allChoices_1 (q := 2) rfl (by decide) (lv' := [(1, .int (0 : Int32)), (0, .ref (zz_d Z 18))]) rfl rfl ?_
  refine zr_iconst C dX9_allChoices_2 (q := 3) (v := (0 : Int32)) (by decide) rfl ?_
  refine zr_istore_n C dX9_allChoices_3 (q := 4) rfl (by decide) (lv' := [(2, .int (0 : Int32)), (1, .int (0 : Int32)), (0, .ref (zz_d Z 18))]) rfl rfl ?_
  refine zr_sub [2, 1, 0] rfl (zX_Values_allChoices_L4_w C s hr (fun v1_3 h => ?_) 10000 (0 : Int32) (0 : Int32) h)
  · skip
    refine zr_iload_n C dX9_allChoices_25 (q := 26) rfl 0 rfl rfl ?_
    exact zr_retR dX9_allChoices_26 h hr
theorem zX_Values_allChoices_met {l : Launch} {D : va_G} {cz : ClassId × ClassId} {ad : Nat → Nat} (hS : zx_So zX_sd) (hi : zx_I zX_sd ad) {s : zx_S} {v : Int32} (h : zX_Values_allChoices s = some v) : zx_MI zX_sd l D cz ad yX9_allChoices cX9_allChoices 3 .int 0 0 [.ref (ad 18)] s v s := zx_metI hS hi (by decide +kernel) rfl (Nat.le_of_ble_eq_true rfl) (fun Z e1 e2 e3 e4 C hr => by subst e1 e2 e3 e4; exact zX_Values_allChoices_w C s hr h)
set_option maxRecDepth 100000 in
set_option maxHeartbeats 4000000 in
theorem zX_ValueBench_count_w {Z : zx_Z} (C : zx_ok zX_sd Z cX10_count 2 RX10 6 140) {r : Int32 × zx_S} (p1 : Int32) (s : zx_S) (hr : zx_rI zX_sd Z cX10_count 2 .int r.1 r.2) (h : zX_ValueBench_count p1 s = some r) : zW zX_sd Z 2 0 [(0, .ref (zz_d Z 0)), (1, .int p1)] [] s := by
  unfold zX_ValueBench_count at h
  refine zr_aload_n C dX10_count_0 (q := 1) rfl 0 rfl rfl ?_
  obtain ⟨s1, hc_1, h⟩ := zx_b1_so h
  refine zr_cvV (q := 4) C (As := []) (k := 0) (rest := []) dX10_count_1 (zX_ValueBench_refresh_met C.2.2.2.2.1 C.2.2.2.1 hc_1) zX_vX10_104 zX_o0 ⟨by decide, by decide⟩ rfl (Nat.le_of_ble_eq_true rfl) rfl rfl ?_
  refine zr_iload_n C dX10_count_4 (q := 5) rfl 1 rfl rfl ?_
  by_cases e0 : p1 = (0 : Int32)
  · rw [if_pos e0] at h
    refine zr_tableIn (tgt := 48) (off := 43) C dX10_count_5 (by rw [e0]; decide) (by rw [e0]; decide) (by rw [e0] <;> exact rfl) (by decide) ?_
    refine zr_aload_n C dX10_count_48 (q := 49) rfl 0 rfl rfl ?_
    refine zr_get C dX10_count_49 (q := 52) zX_gX10_12_0 rfl ?_
    refine zr_get C dX10_count_52 (q := 55) zX_gX10_75_1 rfl ?_
    exact zr_retI dX10_count_55 h hr
  · rw [if_neg e0] at h
    by_cases e1 : p1 = (1 : Int32)
    · rw [if_pos e1] at h
      refine zr_tableIn (tgt := 56) (off := 51) C dX10_count_5 (by rw [e1]; decide) (by rw [e1]; decide) (by rw [e1] <;> exact rfl) (by decide) ?_
      refine zr_aload_n C dX10_count_56 (q := 57) rfl 0 rfl rfl ?_
      refine zr_get C dX10_count_57 (q := 60) zX_gX10_12_0 rfl ?_
      obtain ⟨r4, hc_60, h⟩ := zx_b1_so h
      refine zr_cvI (q := 63) C (As := []) (k := 1) (rest := []) dX10_count_60 (zX_Program_instructions_met C.2.2.2.2.1 C.2.2.2.1 hc_60) zX_vX10_83 zX_o1 ⟨by decide, by decide⟩ rfl (Nat.le_of_ble_eq_true rfl) rfl rfl ?_
      exact zr_retI dX10_count_63 h hr
    · rw [if_neg e1] at h
      by_cases e2 : p1 = (2 : Int32)
      · rw [if_pos e2] at h
        refine zr_tableIn (tgt := 64) (off := 59) C dX10_count_5 (by rw [e2]; decide) (by rw [e2]; decide) (by rw [e2] <;> exact rfl) (by decide) ?_
        refine zr_aload_n C dX10_count_64 (q := 65) rfl 0 rfl rfl ?_
        refine zr_get C dX10_count_65 (q := 68) zX_gX10_19_0 rfl ?_
        refine zr_get C dX10_count_68 (q := 71) zX_gX10_227_11 rfl ?_
        obtain ⟨r3, hc_71, h⟩ := zx_b1_so h
        refine zr_csI (q := 74) C (As := [.int (s1 11 6)]) (rest := []) dX10_count_71 (zX_Integer_bitCount_met C.2.2.2.2.1 C.2.2.2.1 hc_71) zX_sX10_128 ⟨by decide, by decide⟩ rfl (Nat.le_of_ble_eq_true rfl) rfl rfl ?_
        exact zr_retI dX10_count_74 h hr
      · rw [if_neg e2] at h
        by_cases e3 : p1 = (3 : Int32)
        · rw [if_pos e3] at h
          refine zr_tableIn (tgt := 75) (off := 70) C dX10_count_5 (by rw [e3]; decide) (by rw [e3]; decide) (by rw [e3] <;> exact rfl) (by decide) ?_
          refine zr_aload_n C dX10_count_75 (q := 76) rfl 0 rfl rfl ?_
          refine zr_get C dX10_count_76 (q := 79) zX_gX10_26_0 rfl ?_
          refine zr_get C dX10_count_79 (q := 82) zX_gX10_230_18 rfl ?_
          exact zr_retI dX10_count_82 h hr
        · rw [if_neg e3] at h
          by_cases e4 : p1 = (4 : Int32)
          · rw [if_pos e4] at h
            refine zr_tableIn (tgt := 83) (off := 78) C dX10_count_5 (by rw [e4]; decide) (by rw [e4]; decide) (by rw [e4] <;> exact rfl) (by decide) ?_
            refine zr_aload_n C dX10_count_83 (q := 84) rfl 0 rfl rfl ?_
            refine zr_get C dX10_count_84 (q := 87) zX_gX10_33_0 rfl ?_
            refine zr_get C dX10_count_87 (q := 90) zX_gX10_233_33 rfl ?_
            exact zr_retI dX10_count_90 h hr
          · rw [if_neg e4] at h
            by_cases e5 : p1 = (5 : Int32)
            · rw [if_pos e5] at h
              refine zr_tableIn (tgt := 91) (off := 86) C dX10_count_5 (by rw [e5]; decide) (by rw [e5]; decide) (by rw [e5] <;> exact rfl) (by decide) ?_
              refine zr_aload_n C dX10_count_91 (q := 92) rfl 0 rfl rfl ?_
              refine zr_get C dX10_count_92 (q := 95) zX_gX10_40_0 rfl ?_
              refine zr_get C dX10_count_95 (q := 98) zX_gX10_234_36 rfl ?_
              exact zr_retI dX10_count_98 h hr
            · rw [if_neg e5] at h
              by_cases e6 : p1 = (6 : Int32)
              · rw [if_pos e6] at h
                refine zr_tableIn (tgt := 99) (off := 94) C dX10_count_5 (by rw [e6]; decide) (by rw [e6]; decide) (by rw [e6] <;> exact rfl) (by decide) ?_
                refine zr_aload_n C dX10_count_99 (q := 100) rfl 0 rfl rfl ?_
                refine zr_get C dX10_count_100 (q := 103) zX_gX10_26_0 rfl ?_
                obtain ⟨r2, hc_103, h⟩ := zx_b1_so h
                refine zr_cvI (q := 106) C (As := []) (k := 18) (rest := []) dX10_count_103 (zX_Values_allChoices_met C.2.2.2.2.1 C.2.2.2.1 hc_103) zX_vX10_237 zX_o18 ⟨by decide, by decide⟩ rfl (Nat.le_of_ble_eq_true rfl) rfl rfl ?_
                exact zr_retI dX10_count_106 h hr
              · rw [if_neg e6] at h
                refine zr_tableOut (tgt := 107) C dX10_count_5 (by have f0 := lv_neT (a := 0) e0 (by decide); have f1 := lv_neT (a := 1) e1 (by decide); have f2 := lv_neT (a := 2) e2 (by decide); have f3 := lv_neT (a := 3) e3 (by decide); have f4 := lv_neT (a := 4) e4 (by decide); have f5 := lv_neT (a := 5) e5 (by decide); have f6 := lv_neT (a := 6) e6 (by decide); omega) (by decide) ?_
                refine zr_iconst C dX10_count_107 (q := 108) (v := (-1 : Int32)) (by decide) rfl ?_
                exact zr_retI dX10_count_108 h hr
theorem zX_ValueBench_count_met {l : Launch} {D : va_G} {cz : ClassId × ClassId} {ad : Nat → Nat} (hS : zx_So zX_sd) (hi : zx_I zX_sd ad) {p1 : Int32} {s : zx_S} {v : Int32} {s1 : zx_S} (h : zX_ValueBench_count p1 s = some (v, s1)) : zx_MI zX_sd l D cz ad yX10_count cX10_count 2 .int 6 140 [.ref (ad 0), .int p1] s v s1 := zx_metI hS hi (by decide +kernel) rfl (Nat.le_of_ble_eq_true rfl) (fun Z e1 e2 e3 e4 C hr => by subst e1 e2 e3 e4; exact zX_ValueBench_count_w (r := (v, s1)) C p1 s hr h)
