set_option maxRecDepth 100000 in
set_option maxHeartbeats 4000000 in
theorem zX_Classes_part_L2_w {Z : zx_Z} (C : zx_ok zX_sd Z cX0_part 4 RX0 4 97) {r : zx_S} {k28 : zx_S → Option zx_S} (hr : zx_rV zX_sd Z cX0_part 4 r) (h28 : ∀ (s1 : zx_S), k28 s1 = some r → zW zX_sd Z 4 28 [(0, .ref (zz_d Z 33)), (1, .ref (zz_d Z 18))] [] s1) : ∀ (n : Nat) (v2 : Int32) (s : zx_S), zX_Classes_part_L2 k28 n v2 s = some r → zW zX_sd Z 4 2 [(0, .ref (zz_d Z 33)), (1, .ref (zz_d Z 18)), (2, .int v2)] [] s := by
  intro n
  induction n with
  | zero => intro v2 s h; unfold zX_Classes_part_L2 at h; cases h
  | succ n ih =>
    intro v2 s h
    unfold zX_Classes_part_L2 at h
    refine zr_iload_n C dX0_part_2 (q := 3) rfl 2 rfl rfl ?_
    refine zr_aload_n C dX0_part_3 (q := 4) rfl 1 rfl rfl ?_
    refine zr_get C dX0_part_4 (q := 7) zX_gX0_18_18 rfl ?_
    refine zr_icmp_ge (tgt := 28) (q := 10) C dX0_part_7 h (by decide) rfl (fun h => ?_) (fun h => ?_)
    · skip
      exact zr_sub [0, 1] rfl (h28 s h)
    · skip
      refine zr_aload_n C dX0_part_10 (q := 11) rfl 0 rfl rfl ?_
      refine zr_get C dX0_part_11 (q := 14) zX_gX0_9_33 rfl ?_
      refine zr_iload_n C dX0_part_14 (q := 15) rfl 2 rfl rfl ?_
      refine zr_aload_n C dX0_part_15 (q := 16) rfl 0 rfl rfl ?_
      refine zr_aload_n C dX0_part_16 (q := 17) rfl 1 rfl rfl ?_
      refine zr_iload_n C dX0_part_17 (q := 18) rfl 2 rfl rfl ?_
      obtain ⟨r1, hc_18, h⟩ := zx_b1_so h
      refine zr_cvI (q := 21) C (As := [.ref (zz_d Z 18), .int v2]) (k := 33) (rest := [.int v2, .ref (zz_d Z 34)]) dX0_part_18 (zX_Classes_leastAlike_met C.2.2.2.2.1 C.2.2.2.1 hc_18) zX_vX0_24 zX_o33 ⟨by decide, by decide⟩ rfl (Nat.le_of_ble_eq_true rfl) rfl rfl ?_
      obtain ⟨hin_21, h⟩ := zx_ck_so h
      refine zr_iast C dX0_part_21 (q := 22) zX_a34 hin_21 rfl ?_
      refine zr_ls h (fun s2 h => ?_)
      refine zr_iinc C dX0_part_22 (q := 25) h (by decide) 2 rfl (by decide) (lw := fun v2_3 => [(2, .int v2_3), (0, .ref (zz_d Z 33)), (1, .ref (zz_d Z 18))]) (fun _ => rfl) rfl (fun v2_3 h => ?_)
      refine zr_goto (q := 2) C dX0_part_25 (by decide) ?_
      exact zr_sub [1, 2, 0] rfl (ih v2_3 s2 h)
set_option maxRecDepth 100000 in
set_option maxHeartbeats 4000000 in
theorem zX_Classes_part_L32_w {Z : zx_Z} (C : zx_ok zX_sd Z cX0_part 4 RX0 4 97) {r : zx_S} {k55 : zx_S → Option zx_S} (hr : zx_rV zX_sd Z cX0_part 4 r) (h55 : ∀ (s1 : zx_S), k55 s1 = some r → zW zX_sd Z 4 55 [(0, .ref (zz_d Z 33)), (1, .ref (zz_d Z 18))] [] s1) : ∀ (n : Nat) (v2 : Int32) (v3 : Int32) (s : zx_S), zX_Classes_part_L32 k55 n v2 v3 s = some r → zW zX_sd Z 4 32 [(0, .ref (zz_d Z 33)), (1, .ref (zz_d Z 18)), (2, .int v2), (3, .int v3)] [] s := by
  intro n
  induction n with
  | zero => intro v2 v3 s h; unfold zX_Classes_part_L32 at h; cases h
  | succ n ih =>
    intro v2 v3 s h
    unfold zX_Classes_part_L32 at h
    refine zr_iload_n C dX0_part_32 (q := 33) rfl 3 rfl rfl ?_
    refine zr_sipush C dX0_part_33 (q := 36) (v := (261 : Int32)) (by decide) rfl ?_
    refine zr_icmp_gt (tgt := 55) (q := 39) C dX0_part_36 h (by decide) rfl (fun h => ?_) (fun h => ?_)
    · skip
      exact zr_sub [0, 1] rfl (h55 s h)
    · skip
      refine zr_iload_n C dX0_part_39 (q := 40) rfl 2 rfl rfl ?_
      refine zr_if_eq (tgt := 55) (q := 43) C dX0_part_40 h (by decide) rfl (fun h => ?_) (fun h => ?_)
      · skip
        exact zr_sub [0, 1] rfl (h55 s h)
      · skip
        refine zr_aload_n C dX0_part_43 (q := 44) rfl 0 rfl rfl ?_
        refine zr_aload_n C dX0_part_44 (q := 45) rfl 1 rfl rfl ?_
        obtain ⟨r5, s6, hc_45, h⟩ := zx_b2_so h
        refine zr_cvI (q := 48) C (As := [.ref (zz_d Z 18)]) (k := 33) (rest := []) dX0_part_45 (zX_Classes_partFiner_met C.2.2.2.2.1 C.2.2.2.1 hc_45) zX_vX0_28 zX_o33 ⟨by decide, by decide⟩ rfl (Nat.le_of_ble_eq_true rfl) rfl rfl ?_
        refine zr_istore_n C dX0_part_48 (q := 49) rfl (by decide) (lv' := [(2, .int r5), (0, .ref (zz_d Z 33)), (1, .ref (zz_d Z 18)), (3, .int v3)]) rfl rfl ?_
        refine zr_iinc C dX0_part_49 (q := 52) h (by decide) 3 rfl (by decide) (lw := fun v3_7 => [(3, .int v3_7), (2, .int r5), (0, .ref (zz_d Z 33)), (1, .ref (zz_d Z 18))]) (fun _ => rfl) rfl (fun v3_7 h => ?_)
        refine zr_goto (q := 32) C dX0_part_52 (by decide) ?_
        exact zr_sub [2, 3, 1, 0] rfl (ih r5 v3_7 s6 h)
set_option maxRecDepth 100000 in
set_option maxHeartbeats 4000000 in
theorem zX_Classes_part_L62_w {Z : zx_Z} (C : zx_ok zX_sd Z cX0_part 4 RX0 4 97) {r : zx_S} {k100 : zx_S → Option zx_S} (hr : zx_rV zX_sd Z cX0_part 4 r) (h100 : ∀ (s1 : zx_S), k100 s1 = some r → zW zX_sd Z 4 100 [] [] s1) : ∀ (n : Nat) (v3 : Int32) (s : zx_S), zX_Classes_part_L62 k100 n v3 s = some r → zW zX_sd Z 4 62 [(0, .ref (zz_d Z 33)), (1, .ref (zz_d Z 18)), (3, .int v3)] [] s := by
  intro n
  induction n with
  | zero => intro v3 s h; unfold zX_Classes_part_L62 at h; cases h
  | succ n ih =>
    intro v3 s h
    unfold zX_Classes_part_L62 at h
    refine zr_iload_n C dX0_part_62 (q := 63) rfl 2 rfl rfl ?_
    refine zr_aload_n C dX0_part_63 (q := 64) rfl 1 rfl rfl ?_
    refine zr_get C dX0_part_64 (q := 67) zX_gX0_18_18 rfl ?_
    refine zr_icmp_ge (tgt := 100) (q := 70) C dX0_part_67 h (by decide) rfl (fun h => ?_) (fun h => ?_)
    · skip
      exact zr_sub [] rfl (h100 s h)
    · skip
      refine zr_aload_n C dX0_part_70 (q := 71) rfl 0 rfl rfl ?_
      refine zr_dup C dX0_part_71 (q := 72) rfl rfl ?_
      refine zr_get C dX0_part_72 (q := 75) zX_gX0_32_33 rfl ?_
      refine zr_aload_n C dX0_part_75 (q := 76) rfl 0 rfl rfl ?_
      refine zr_get C dX0_part_76 (q := 79) zX_gX0_9_33 rfl ?_
      refine zr_iload_n C dX0_part_79 (q := 80) rfl 2 rfl rfl ?_
      obtain ⟨hin_80, h⟩ := zx_ck_so h
      refine zr_iald C dX0_part_80 (q := 81) zX_a34 hin_80 rfl ?_
      refine zr_iload_n C dX0_part_81 (q := 82) rfl 2 rfl rfl ?_
      refine zr_icmp_ne (tgt := 89) (q := 85) C dX0_part_82 h (by decide) rfl (fun h => ?_) (fun h => ?_)
      · skip
        refine zr_iconst C dX0_part_89 (q := 90) (v := (0 : Int32)) (by decide) rfl ?_
        refine zr_iadd C dX0_part_90 (q := 91) rfl ?_
        refine zr_top h (fun x13 h => ?_)
        refine zr_put C dX0_part_91 (q := 94) zX_pX0_32_33 rfl rfl rfl ?_
        refine zr_ls h (fun s14 h => ?_)
        refine zr_iinc C dX0_part_94 (q := 97) h (by decide) 2 rfl (by decide) (lw := fun v3_15 => [(3, .int v3_15), (0, .ref (zz_d Z 33)), (1, .ref (zz_d Z 18))]) (fun _ => rfl) rfl (fun v3_15 h => ?_)
        refine zr_goto (q := 62) C dX0_part_97 (by decide) ?_
        exact zr_sub [1, 2, 0] rfl (ih v3_15 s14 h)
      · skip
        refine zr_iconst C dX0_part_85 (q := 86) (v := (1 : Int32)) (by decide) rfl ?_
        refine zr_goto (q := 90) C dX0_part_86 (by decide) ?_
        refine zr_iadd C dX0_part_90 (q := 91) rfl ?_
        refine zr_top h (fun x10 h => ?_)
        refine zr_put C dX0_part_91 (q := 94) zX_pX0_32_33 rfl rfl rfl ?_
        refine zr_ls h (fun s11 h => ?_)
        refine zr_iinc C dX0_part_94 (q := 97) h (by decide) 2 rfl (by decide) (lw := fun v3_12 => [(3, .int v3_12), (0, .ref (zz_d Z 33)), (1, .ref (zz_d Z 18))]) (fun _ => rfl) rfl (fun v3_12 h => ?_)
        refine zr_goto (q := 62) C dX0_part_97 (by decide) ?_
        exact zr_sub [1, 2, 0] rfl (ih v3_12 s11 h)
set_option maxRecDepth 100000 in
set_option maxHeartbeats 4000000 in
theorem zX_Classes_part_w {Z : zx_Z} (C : zx_ok zX_sd Z cX0_part 4 RX0 4 97) {r : zx_S} (s : zx_S) (hr : zx_rV zX_sd Z cX0_part 4 r) (h : zX_Classes_part s = some r) : zW zX_sd Z 4 0 [(0, .ref (zz_d Z 33)), (1, .ref (zz_d Z 18))] [] s := by
  unfold zX_Classes_part at h
  refine zr_iconst C dX0_part_0 (q := 1) (v := (0 : Int32)) (by decide) rfl ?_
  refine zr_istore_n C dX0_part_1 (q := 2) rfl (by decide) (lv' := [(2, .int (0 : Int32)), (0, .ref (zz_d Z 33)), (1, .ref (zz_d Z 18))]) rfl rfl ?_
  refine zr_sub [1, 2, 0] rfl (zX_Classes_part_L2_w C hr (fun s4 h => ?_) 10000 (0 : Int32) s h)
  · skip
    refine zr_iconst C dX0_part_28 (q := 29) (v := (1 : Int32)) (by decide) rfl ?_
    refine zr_istore_n C dX0_part_29 (q := 30) rfl (by decide) (lv' := [(2, .int (1 : Int32)), (0, .ref (zz_d Z 33)), (1, .ref (zz_d Z 18))]) rfl rfl ?_
    refine zr_iconst C dX0_part_30 (q := 31) (v := (0 : Int32)) (by decide) rfl ?_
    refine zr_istore_n C dX0_part_31 (q := 32) rfl (by decide) (lv' := [(3, .int (0 : Int32)), (2, .int (1 : Int32)), (0, .ref (zz_d Z 33)), (1, .ref (zz_d Z 18))]) rfl rfl ?_
    refine zr_sub [2, 3, 1, 0] rfl (zX_Classes_part_L32_w C hr (fun s8 h => ?_) 10000 (1 : Int32) (0 : Int32) s4 h)
    · skip
      refine zr_aload_n C dX0_part_55 (q := 56) rfl 0 rfl rfl ?_
      refine zr_iconst C dX0_part_56 (q := 57) (v := (0 : Int32)) (by decide) rfl ?_
      refine zr_put C dX0_part_57 (q := 60) zX_pX0_32_33 rfl rfl rfl ?_
      refine zr_ls h (fun s9 h => ?_)
      refine zr_iconst C dX0_part_60 (q := 61) (v := (0 : Int32)) (by decide) rfl ?_
      refine zr_istore_n C dX0_part_61 (q := 62) rfl (by decide) (lv' := [(3, .int (0 : Int32)), (0, .ref (zz_d Z 33)), (1, .ref (zz_d Z 18))]) rfl rfl ?_
      refine zr_sub [1, 2, 0] rfl (zX_Classes_part_L62_w C hr (fun s16 h => ?_) 10000 (0 : Int32) s9 h)
      · skip
        exact zr_retV dX0_part_100 h hr
theorem zX_Classes_part_met {l : Launch} {D : va_G} {cz : ClassId × ClassId} {ad : Nat → Nat} (hS : zx_So zX_sd) (hi : zx_I zX_sd ad) {s : zx_S} {s1 : zx_S} (h : zX_Classes_part s = some s1) : zx_MV zX_sd l D cz ad yX0_part cX0_part 4 4 97 [.ref (ad 33), .ref (ad 18)] s s1 := zx_metV hS hi (by decide +kernel) rfl (Nat.le_of_ble_eq_true rfl) (fun Z e1 e2 e3 e4 C hr => by subst e1 e2 e3 e4; exact zX_Classes_part_w C s hr h)
set_option maxRecDepth 100000 in
set_option maxHeartbeats 4000000 in
theorem zX_Leaders_isLed_L20_w {Z : zx_Z} (C : zx_ok zX_sd Z cX3_isLed 7 RX3 1 21) {r : Int32} (v3 v4 v5 : Int32) (s : zx_S) {k82 : Option Int32} (hr : zx_rI zX_sd Z cX3_isLed 7 .boolean r s) (h82 : k82 = some r → zW zX_sd Z 7 82 [] [] s) : ∀ (n : Nat) (v6 : Int32), zX_Leaders_isLed_L20 v3 v4 v5 s k82 n v6 = some r → zW zX_sd Z 7 20 [(0, .ref (zz_d Z 11)), (1, .ref (zz_d Z 18)), (2, .ref (zz_d Z 33)), (3, .int v3), (4, .int v4), (5, .int v5), (6, .int v6)] [] s := by
  intro n
  induction n with
  | zero => intro v6 h; unfold zX_Leaders_isLed_L20 at h; cases h
  | succ n ih =>
    intro v6 h
    unfold zX_Leaders_isLed_L20 at h
    refine zr_iload C dX3_isLed_20 (q := 22) 6 rfl rfl ?_
    refine zr_aload_n C dX3_isLed_22 (q := 23) rfl 1 rfl rfl ?_
    refine zr_get C dX3_isLed_23 (q := 26) zX_gX3_26_18 rfl ?_
    refine zr_icmp_ge (tgt := 90) (q := 29) C dX3_isLed_26 h (by decide) rfl (fun h => ?_) (fun h => ?_)
    · skip
      refine zr_iconst C dX3_isLed_90 (q := 91) (v := (0 : Int32)) (by decide) rfl ?_
      exact zr_retZR dX3_isLed_91 (Or.inl rfl) h hr
    · skip
      refine zr_aload_n C dX3_isLed_29 (q := 30) rfl 2 rfl rfl ?_
      refine zr_get C dX3_isLed_30 (q := 33) zX_gX3_58_33 rfl ?_
      refine zr_iload C dX3_isLed_33 (q := 35) 6 rfl rfl ?_
      obtain ⟨hin_35, h⟩ := zx_ck_so h
      refine zr_iald C dX3_isLed_35 (q := 36) zX_a34 hin_35 rfl ?_
      refine zr_iload C dX3_isLed_36 (q := 38) 4 rfl rfl ?_
      refine zr_icmp_ne (tgt := 84) (q := 41) C dX3_isLed_38 h (by decide) rfl (fun h => ?_) (fun h => ?_)
      · skip
        refine zr_iinc C dX3_isLed_84 (q := 87) h (by decide) 6 rfl (by decide) (lw := fun v6_6 => [(6, .int v6_6), (0, .ref (zz_d Z 11)), (1, .ref (zz_d Z 18)), (2, .ref (zz_d Z 33)), (3, .int v3), (4, .int v4), (5, .int v5)]) (fun _ => rfl) rfl (fun v6_6 h => ?_)
        refine zr_goto (q := 20) C dX3_isLed_87 (by decide) ?_
        exact zr_sub [1, 2, 3, 4, 5, 6, 0] rfl (ih v6_6 h)
      · skip
        refine zr_aload_n C dX3_isLed_41 (q := 42) rfl 1 rfl rfl ?_
        refine zr_get C dX3_isLed_42 (q := 45) zX_gX3_63_18 rfl ?_
        refine zr_iload C dX3_isLed_45 (q := 47) 6 rfl rfl ?_
        obtain ⟨hin_47, h⟩ := zx_ck_so h
        refine zr_iald C dX3_isLed_47 (q := 48) zX_a20 hin_47 rfl ?_
        refine zr_iload C dX3_isLed_48 (q := 50) 5 rfl rfl ?_
        refine zr_icmp_ne (tgt := 62) (q := 53) C dX3_isLed_50 h (by decide) rfl (fun h => ?_) (fun h => ?_)
        · skip
          refine zr_aload_n C dX3_isLed_62 (q := 63) rfl 0 rfl rfl ?_
          refine zr_get C dX3_isLed_63 (q := 66) zX_gX3_66_11 rfl ?_
          refine zr_aload_n C dX3_isLed_66 (q := 67) rfl 1 rfl rfl ?_
          refine zr_get C dX3_isLed_67 (q := 70) zX_gX3_63_18 rfl ?_
          refine zr_iload C dX3_isLed_70 (q := 72) 6 rfl rfl ?_
          obtain ⟨hin_72, h⟩ := zx_ck_so h
          refine zr_iald C dX3_isLed_72 (q := 73) zX_a20 hin_72 rfl ?_
          obtain ⟨hin_73, h⟩ := zx_ck_so h
          refine zr_iald C dX3_isLed_73 (q := 74) zX_a14 hin_73 rfl ?_
          refine zr_iload C dX3_isLed_74 (q := 76) 5 rfl rfl ?_
          obtain ⟨r4, hc_76, h⟩ := zx_b1_so h
          refine zr_csI (q := 79) C (As := [.int (s 14 ((s 20 (v6).toNatClampNeg)).toNatClampNeg), .int v5]) (rest := []) dX3_isLed_76 (zX_Graph_isIn_met C.2.2.2.2.1 C.2.2.2.1 hc_76) zX_sX3_69 ⟨by decide, by decide⟩ rfl (Nat.le_of_ble_eq_true rfl) rfl rfl ?_
          refine zr_if_eq (tgt := 84) (q := 82) C dX3_isLed_79 h (by decide) rfl (fun h => ?_) (fun h => ?_)
          · skip
            refine zr_iinc C dX3_isLed_84 (q := 87) h (by decide) 6 rfl (by decide) (lw := fun v6_5 => [(6, .int v6_5), (0, .ref (zz_d Z 11)), (1, .ref (zz_d Z 18)), (2, .ref (zz_d Z 33)), (3, .int v3), (4, .int v4), (5, .int v5)]) (fun _ => rfl) rfl (fun v6_5 h => ?_)
            refine zr_goto (q := 20) C dX3_isLed_87 (by decide) ?_
            exact zr_sub [1, 2, 3, 4, 5, 6, 0] rfl (ih v6_5 h)
          · skip
            exact zr_sub [] rfl (h82 h)
        · skip
          refine zr_iload C dX3_isLed_53 (q := 55) 6 rfl rfl ?_
          refine zr_iload_n C dX3_isLed_55 (q := 56) rfl 3 rfl rfl ?_
          refine zr_icmp_ge (tgt := 84) (q := 59) C dX3_isLed_56 h (by decide) rfl (fun h => ?_) (fun h => ?_)
          · skip
            refine zr_iinc C dX3_isLed_84 (q := 87) h (by decide) 6 rfl (by decide) (lw := fun v6_3 => [(6, .int v6_3), (0, .ref (zz_d Z 11)), (1, .ref (zz_d Z 18)), (2, .ref (zz_d Z 33)), (3, .int v3), (4, .int v4), (5, .int v5)]) (fun _ => rfl) rfl (fun v6_3 h => ?_)
            refine zr_goto (q := 20) C dX3_isLed_87 (by decide) ?_
            exact zr_sub [1, 2, 3, 4, 5, 6, 0] rfl (ih v6_3 h)
          · skip
            refine zr_goto (q := 82) C dX3_isLed_59 (by decide) ?_
            exact zr_sub [] rfl (h82 h)
set_option maxRecDepth 100000 in
set_option maxHeartbeats 4000000 in
theorem zX_Leaders_isLed_w {Z : zx_Z} (C : zx_ok zX_sd Z cX3_isLed 7 RX3 1 21) {r : Int32} (p3 : Int32) (s : zx_S) (hr : zx_rI zX_sd Z cX3_isLed 7 .boolean r s) (h : zX_Leaders_isLed p3 s = some r) : zW zX_sd Z 7 0 [(0, .ref (zz_d Z 11)), (1, .ref (zz_d Z 18)), (2, .ref (zz_d Z 33)), (3, .int p3)] [] s := by
  unfold zX_Leaders_isLed at h
  refine zr_aload_n C dX3_isLed_0 (q := 1) rfl 2 rfl rfl ?_
  refine zr_get C dX3_isLed_1 (q := 4) zX_gX3_58_33 rfl ?_
  refine zr_iload_n C dX3_isLed_4 (q := 5) rfl 3 rfl rfl ?_
  obtain ⟨hin_5, h⟩ := zx_ck_so h
  refine zr_iald C dX3_isLed_5 (q := 6) zX_a34 hin_5 rfl ?_
  refine zr_top h (fun v4_1 h => ?_)
  refine zr_istore C dX3_isLed_6 (q := 8) (by decide) (lv' := [(4, .int v4_1), (0, .ref (zz_d Z 11)), (1, .ref (zz_d Z 18)), (2, .ref (zz_d Z 33)), (3, .int p3)]) rfl rfl ?_
  refine zr_aload_n C dX3_isLed_8 (q := 9) rfl 2 rfl rfl ?_
  refine zr_get C dX3_isLed_9 (q := 12) zX_gX3_63_18 rfl ?_
  refine zr_iload_n C dX3_isLed_12 (q := 13) rfl 4 rfl rfl ?_
  obtain ⟨hin_13, h⟩ := zx_ck_so h
  refine zr_iald C dX3_isLed_13 (q := 14) zX_a20 hin_13 rfl ?_
  refine zr_top h (fun v5_2 h => ?_)
  refine zr_istore C dX3_isLed_14 (q := 16) (by decide) (lv' := [(5, .int v5_2), (4, .int v4_1), (0, .ref (zz_d Z 11)), (1, .ref (zz_d Z 18)), (2, .ref (zz_d Z 33)), (3, .int p3)]) rfl rfl ?_
  refine zr_iload C dX3_isLed_16 (q := 18) 1 rfl rfl ?_
  refine zr_istore C dX3_isLed_18 (q := 20) (by decide) (lv' := [(6, .int v4_1), (5, .int v5_2), (4, .int v4_1), (0, .ref (zz_d Z 11)), (1, .ref (zz_d Z 18)), (2, .ref (zz_d Z 33)), (3, .int p3)]) rfl rfl ?_
  refine zr_sub [3, 4, 5, 6, 2, 1, 0] rfl (zX_Leaders_isLed_L20_w C p3 v4_1 v5_2 s hr (fun h => ?_) 10000 v4_1 h)
  · skip
    refine zr_iconst C dX3_isLed_82 (q := 83) (v := (1 : Int32)) (by decide) rfl ?_
    exact zr_retZR dX3_isLed_83 (Or.inr rfl) h hr
theorem zX_Leaders_isLed_met {l : Launch} {D : va_G} {cz : ClassId × ClassId} {ad : Nat → Nat} (hS : zx_So zX_sd) (hi : zx_I zX_sd ad) {p3 : Int32} {s : zx_S} {v : Int32} (h : zX_Leaders_isLed p3 s = some v) : zx_MI zX_sd l D cz ad yX3_isLed cX3_isLed 7 .boolean 1 21 [.ref (ad 11), .ref (ad 18), .ref (ad 33), .int p3] s v s := zx_metI hS hi (by decide +kernel) rfl (Nat.le_of_ble_eq_true rfl) (fun Z e1 e2 e3 e4 C hr => by subst e1 e2 e3 e4; exact zX_Leaders_isLed_w C p3 s hr h)
set_option maxRecDepth 100000 in
set_option maxHeartbeats 4000000 in
theorem zX_Leaders_leader_L13_w {Z : zx_Z} (C : zx_ok zX_sd Z cX3_leader 8 RX3 1 21) {r : Int32} (v4 v5 v6 : Int32) (s : zx_S) {k64 : Int32 → Option Int32} (hr : zx_rI zX_sd Z cX3_leader 8 .int r s) (h64 : ∀ (a0 : Int32), k64 a0 = some r → zW zX_sd Z 8 64 [(7, .int a0)] [] s) : ∀ (n : Nat) (v7 : Int32), zX_Leaders_leader_L13 v4 v5 v6 s k64 n v7 = some r → zW zX_sd Z 8 13 [(0, .ref (zz_d Z 36)), (1, .ref (zz_d Z 11)), (2, .ref (zz_d Z 18)), (3, .ref (zz_d Z 33)), (4, .int v4), (5, .int v5), (6, .int v6), (7, .int v7)] [] s := by
  intro n
  induction n with
  | zero => intro v7 h; unfold zX_Leaders_leader_L13 at h; cases h
  | succ n ih =>
    intro v7 h
    unfold zX_Leaders_leader_L13 at h
    refine zr_iload C dX3_leader_13 (q := 15) 7 rfl rfl ?_
    refine zr_aload_n C dX3_leader_15 (q := 16) rfl 2 rfl rfl ?_
    refine zr_get C dX3_leader_16 (q := 19) zX_gX3_26_18 rfl ?_
    refine zr_icmp_ge (tgt := 73) (q := 22) C dX3_leader_19 h (by decide) rfl (fun h => ?_) (fun h => ?_)
    · skip
      refine zr_iload C dX3_leader_73 (q := 75) 4 rfl rfl ?_
      exact zr_retR dX3_leader_75 h hr
    · skip
      refine zr_aload_n C dX3_leader_22 (q := 23) rfl 3 rfl rfl ?_
      refine zr_get C dX3_leader_23 (q := 26) zX_gX3_58_33 rfl ?_
      refine zr_iload C dX3_leader_26 (q := 28) 7 rfl rfl ?_
      obtain ⟨hin_28, h⟩ := zx_ck_so h
      refine zr_iald C dX3_leader_28 (q := 29) zX_a34 hin_28 rfl ?_
      refine zr_iload C dX3_leader_29 (q := 31) 6 rfl rfl ?_
      refine zr_icmp_ne (tgt := 67) (q := 34) C dX3_leader_31 h (by decide) rfl (fun h => ?_) (fun h => ?_)
      · skip
        refine zr_iinc C dX3_leader_67 (q := 70) h (by decide) 7 rfl (by decide) (lw := fun v7_5 => [(7, .int v7_5), (0, .ref (zz_d Z 36)), (1, .ref (zz_d Z 11)), (2, .ref (zz_d Z 18)), (3, .ref (zz_d Z 33)), (4, .int v4), (5, .int v5), (6, .int v6)]) (fun _ => rfl) rfl (fun v7_5 h => ?_)
        refine zr_goto (q := 13) C dX3_leader_70 (by decide) ?_
        exact zr_sub [1, 2, 3, 4, 5, 6, 7, 0] rfl (ih v7_5 h)
      · skip
        refine zr_aload_n C dX3_leader_34 (q := 35) rfl 0 rfl rfl ?_
        refine zr_get C dX3_leader_35 (q := 38) zX_gX3_9_36 rfl ?_
        refine zr_iload C dX3_leader_38 (q := 40) 7 rfl rfl ?_
        obtain ⟨hin_40, h⟩ := zx_ck_so h
        refine zr_zald C dX3_leader_40 (q := 41) zX_a37 hin_40 rfl ?_
        refine zr_if_ne (tgt := 67) (q := 44) C dX3_leader_41 h (by decide) rfl (fun h => ?_) (fun h => ?_)
        · skip
          refine zr_iinc C dX3_leader_67 (q := 70) h (by decide) 7 rfl (by decide) (lw := fun v7_4 => [(7, .int v7_4), (0, .ref (zz_d Z 36)), (1, .ref (zz_d Z 11)), (2, .ref (zz_d Z 18)), (3, .ref (zz_d Z 33)), (4, .int v4), (5, .int v5), (6, .int v6)]) (fun _ => rfl) rfl (fun v7_4 h => ?_)
          refine zr_goto (q := 13) C dX3_leader_70 (by decide) ?_
          exact zr_sub [1, 2, 3, 4, 5, 6, 7, 0] rfl (ih v7_4 h)
        · skip
          refine zr_aload_n C dX3_leader_44 (q := 45) rfl 1 rfl rfl ?_
          refine zr_get C dX3_leader_45 (q := 48) zX_gX3_66_11 rfl ?_
          refine zr_aload_n C dX3_leader_48 (q := 49) rfl 2 rfl rfl ?_
          refine zr_get C dX3_leader_49 (q := 52) zX_gX3_63_18 rfl ?_
          refine zr_iload C dX3_leader_52 (q := 54) 7 rfl rfl ?_
          obtain ⟨hin_54, h⟩ := zx_ck_so h
          refine zr_iald C dX3_leader_54 (q := 55) zX_a20 hin_54 rfl ?_
          obtain ⟨hin_55, h⟩ := zx_ck_so h
          refine zr_iald C dX3_leader_55 (q := 56) zX_a14 hin_55 rfl ?_
          refine zr_iload C dX3_leader_56 (q := 58) 5 rfl rfl ?_
          obtain ⟨r2, hc_58, h⟩ := zx_b1_so h
          refine zr_csI (q := 61) C (As := [.int (s 14 ((s 20 (v7).toNatClampNeg)).toNatClampNeg), .int v5]) (rest := []) dX3_leader_58 (zX_Graph_isIn_met C.2.2.2.2.1 C.2.2.2.1 hc_58) zX_sX3_69 ⟨by decide, by decide⟩ rfl (Nat.le_of_ble_eq_true rfl) rfl rfl ?_
          refine zr_if_eq (tgt := 67) (q := 64) C dX3_leader_61 h (by decide) rfl (fun h => ?_) (fun h => ?_)
          · skip
            refine zr_iinc C dX3_leader_67 (q := 70) h (by decide) 7 rfl (by decide) (lw := fun v7_3 => [(7, .int v7_3), (0, .ref (zz_d Z 36)), (1, .ref (zz_d Z 11)), (2, .ref (zz_d Z 18)), (3, .ref (zz_d Z 33)), (4, .int v4), (5, .int v5), (6, .int v6)]) (fun _ => rfl) rfl (fun v7_3 h => ?_)
            refine zr_goto (q := 13) C dX3_leader_70 (by decide) ?_
            exact zr_sub [1, 2, 3, 4, 5, 6, 7, 0] rfl (ih v7_3 h)
          · skip
            exact zr_sub [7] rfl (h64 v7 h)
set_option maxRecDepth 100000 in
set_option maxHeartbeats 4000000 in
theorem zX_Leaders_leader_w {Z : zx_Z} (C : zx_ok zX_sd Z cX3_leader 8 RX3 1 21) {r : Int32} (p4 p5 : Int32) (s : zx_S) (hr : zx_rI zX_sd Z cX3_leader 8 .int r s) (h : zX_Leaders_leader p4 p5 s = some r) : zW zX_sd Z 8 0 [(0, .ref (zz_d Z 36)), (1, .ref (zz_d Z 11)), (2, .ref (zz_d Z 18)), (3, .ref (zz_d Z 33)), (4, .int p4), (5, .int p5)] [] s := by
  unfold zX_Leaders_leader at h
  refine zr_aload_n C dX3_leader_0 (q := 1) rfl 3 rfl rfl ?_
  refine zr_get C dX3_leader_1 (q := 4) zX_gX3_58_33 rfl ?_
  refine zr_iload C dX3_leader_4 (q := 6) 4 rfl rfl ?_
  obtain ⟨hin_6, h⟩ := zx_ck_so h
  refine zr_iald C dX3_leader_6 (q := 7) zX_a34 hin_6 rfl ?_
  refine zr_top h (fun v6_1 h => ?_)
  refine zr_istore C dX3_leader_7 (q := 9) (by decide) (lv' := [(6, .int v6_1), (0, .ref (zz_d Z 36)), (1, .ref (zz_d Z 11)), (2, .ref (zz_d Z 18)), (3, .ref (zz_d Z 33)), (4, .int p4), (5, .int p5)]) rfl rfl ?_
  refine zr_iload C dX3_leader_9 (q := 11) 0 rfl rfl ?_
  refine zr_istore C dX3_leader_11 (q := 13) (by decide) (lv' := [(7, .int v6_1), (6, .int v6_1), (0, .ref (zz_d Z 36)), (1, .ref (zz_d Z 11)), (2, .ref (zz_d Z 18)), (3, .ref (zz_d Z 33)), (4, .int p4), (5, .int p5)]) rfl rfl ?_
  refine zr_sub [2, 3, 4, 5, 6, 7, 1, 0] rfl (zX_Leaders_leader_L13_w C p4 p5 v6_1 s hr (fun v7_6 h => ?_) 10000 v6_1 h)
  · skip
    refine zr_iload C dX3_leader_64 (q := 66) 0 rfl rfl ?_
    exact zr_retR dX3_leader_66 h hr
theorem zX_Leaders_leader_met {l : Launch} {D : va_G} {cz : ClassId × ClassId} {ad : Nat → Nat} (hS : zx_So zX_sd) (hi : zx_I zX_sd ad) {p4 p5 : Int32} {s : zx_S} {v : Int32} (h : zX_Leaders_leader p4 p5 s = some v) : zx_MI zX_sd l D cz ad yX3_leader cX3_leader 8 .int 1 21 [.ref (ad 36), .ref (ad 11), .ref (ad 18), .ref (ad 33), .int p4, .int p5] s v s := zx_metI hS hi (by decide +kernel) rfl (Nat.le_of_ble_eq_true rfl) (fun Z e1 e2 e3 e4 C hr => by subst e1 e2 e3 e4; exact zX_Leaders_leader_w C p4 p5 s hr h)
set_option maxRecDepth 100000 in
set_option maxHeartbeats 4000000 in
theorem zX_Graph_nthOf_L4_w {Z : zx_Z} (C : zx_ok zX_sd Z cX2_nthOf 4 RX2 1 21) {r : Int32} (v0 v1 : Int32) (s : zx_S) {k23 : Int32 → Option Int32} (hr : zx_rI zX_sd Z cX2_nthOf 4 .int r s) (h23 : ∀ (a0 : Int32), k23 a0 = some r → zW zX_sd Z 4 23 [(3, .int a0)] [] s) : ∀ (n : Nat) (v2 : Int32) (v3 : Int32), zX_Graph_nthOf_L4 v0 v1 s k23 n v2 v3 = some r → zW zX_sd Z 4 4 [(0, .int v0), (1, .int v1), (2, .int v2), (3, .int v3)] [] s := by
  intro n
  induction n with
  | zero => intro v2 v3 h; unfold zX_Graph_nthOf_L4 at h; cases h
  | succ n ih =>
    intro v2 v3 h
    unfold zX_Graph_nthOf_L4 at h
    refine zr_iload_n C dX2_nthOf_4 (q := 5) rfl 3 rfl rfl ?_
    refine zr_bipush C dX2_nthOf_5 (q := 7) (v := (16 : Int32)) (by decide) rfl ?_
    refine zr_icmp_ge (tgt := 34) (q := 10) C dX2_nthOf_7 h (by decide) rfl (fun h => ?_) (fun h => ?_)
    · skip
      refine zr_iconst C dX2_nthOf_34 (q := 35) (v := (-1 : Int32)) (by decide) rfl ?_
      exact zr_retR dX2_nthOf_35 h hr
    · skip
      refine zr_iload_n C dX2_nthOf_10 (q := 11) rfl 0 rfl rfl ?_
      refine zr_iload_n C dX2_nthOf_11 (q := 12) rfl 3 rfl rfl ?_
      obtain ⟨r1, hc_12, h⟩ := zx_b1_so h
      refine zr_csI (q := 15) C (As := [.int v0, .int v3]) (rest := []) dX2_nthOf_12 (zX_Graph_isIn_met C.2.2.2.2.1 C.2.2.2.1 hc_12) zX_sX2_30 ⟨by decide, by decide⟩ rfl (Nat.le_of_ble_eq_true rfl) rfl rfl ?_
      refine zr_if_eq (tgt := 28) (q := 18) C dX2_nthOf_15 h (by decide) rfl (fun h => ?_) (fun h => ?_)
      · skip
        refine zr_iinc C dX2_nthOf_28 (q := 31) h (by decide) 3 rfl (by decide) (lw := fun v3_4 => [(3, .int v3_4), (0, .int v0), (1, .int v1), (2, .int v2)]) (fun _ => rfl) rfl (fun v3_4 h => ?_)
        refine zr_goto (q := 4) C dX2_nthOf_31 (by decide) ?_
        exact zr_sub [1, 2, 3, 0] rfl (ih v2 v3_4 h)
      · skip
        refine zr_iload_n C dX2_nthOf_18 (q := 19) rfl 2 rfl rfl ?_
        refine zr_iload_n C dX2_nthOf_19 (q := 20) rfl 1 rfl rfl ?_
        refine zr_icmp_ne (tgt := 25) (q := 23) C dX2_nthOf_20 h (by decide) rfl (fun h => ?_) (fun h => ?_)
        · skip
          refine zr_iinc C dX2_nthOf_25 (q := 28) h (by decide) 2 rfl (by decide) (lw := fun v2_2 => [(2, .int v2_2), (0, .int v0), (1, .int v1), (3, .int v3)]) (fun _ => rfl) rfl (fun v2_2 h => ?_)
          refine zr_iinc C dX2_nthOf_28 (q := 31) h (by decide) 3 rfl (by decide) (lw := fun v3_3 => [(3, .int v3_3), (2, .int v2_2), (0, .int v0), (1, .int v1)]) (fun _ => rfl) rfl (fun v3_3 h => ?_)
          refine zr_goto (q := 4) C dX2_nthOf_31 (by decide) ?_
          exact zr_sub [2, 3, 1, 0] rfl (ih v2_2 v3_3 h)
        · skip
          exact zr_sub [3] rfl (h23 v3 h)
set_option maxRecDepth 100000 in
set_option maxHeartbeats 4000000 in
theorem zX_Graph_nthOf_w {Z : zx_Z} (C : zx_ok zX_sd Z cX2_nthOf 4 RX2 1 21) {r : Int32} (p0 p1 : Int32) (s : zx_S) (hr : zx_rI zX_sd Z cX2_nthOf 4 .int r s) (h : zX_Graph_nthOf p0 p1 s = some r) : zW zX_sd Z 4 0 [(0, .int p0), (1, .int p1)] [] s := by
  unfold zX_Graph_nthOf at h
  refine zr_iconst C dX2_nthOf_0 (q := 1) (v := (0 : Int32)) (by decide) rfl ?_
  refine zr_istore_n C dX2_nthOf_1 (q := 2) rfl (by decide) (lv' := [(2, .int (0 : Int32)), (0, .int p0), (1, .int p1)]) rfl rfl ?_
  refine zr_iconst C dX2_nthOf_2 (q := 3) (v := (0 : Int32)) (by decide) rfl ?_
  refine zr_istore_n C dX2_nthOf_3 (q := 4) rfl (by decide) (lv' := [(3, .int (0 : Int32)), (2, .int (0 : Int32)), (0, .int p0), (1, .int p1)]) rfl rfl ?_
  refine zr_sub [2, 3, 1, 0] rfl (zX_Graph_nthOf_L4_w C p0 p1 s hr (fun v3_5 h => ?_) 10000 (0 : Int32) (0 : Int32) h)
  · skip
    refine zr_iload_n C dX2_nthOf_23 (q := 24) rfl 0 rfl rfl ?_
    exact zr_retR dX2_nthOf_24 h hr
theorem zX_Graph_nthOf_met {l : Launch} {D : va_G} {cz : ClassId × ClassId} {ad : Nat → Nat} (hS : zx_So zX_sd) (hi : zx_I zX_sd ad) {p0 p1 : Int32} {s : zx_S} {v : Int32} (h : zX_Graph_nthOf p0 p1 s = some v) : zx_MI zX_sd l D cz ad yX2_nthOf cX2_nthOf 4 .int 1 21 [.int p0, .int p1] s v s := zx_metI hS hi (by decide +kernel) rfl (Nat.le_of_ble_eq_true rfl) (fun Z e1 e2 e3 e4 C hr => by subst e1 e2 e3 e4; exact zX_Graph_nthOf_w C p0 p1 s hr h)
set_option maxRecDepth 100000 in
set_option maxHeartbeats 4000000 in
theorem zX_Leaders_leadOperands_J76_w {Z : zx_Z} (C : zx_ok zX_sd Z cX3_leadOperands 10 RX3 2 48) {r : zx_S} (v4 v5 v6 v7 v8 : Int32) (s : zx_S) {k21 : Int32 → zx_S → Option zx_S} (hr : zx_rV zX_sd Z cX3_leadOperands 10 r) (h21 : ∀ (a0 : Int32) (s1 : zx_S), k21 a0 s1 = some r → zW zX_sd Z 10 21 [(0, .ref (zz_d Z 36)), (1, .ref (zz_d Z 11)), (2, .ref (zz_d Z 18)), (3, .ref (zz_d Z 33)), (4, .int v4), (5, .int v5), (6, .int v6), (7, .int a0)] [] s1) (h : zX_Leaders_leadOperands_J76 k21 v4 v5 v6 v7 v8 s = some r) : zW zX_sd Z 10 76 [(0, .ref (zz_d Z 36)), (1, .ref (zz_d Z 11)), (2, .ref (zz_d Z 18)), (3, .ref (zz_d Z 33)), (4, .int v4), (5, .int v5), (6, .int v6), (7, .int v7), (8, .int v8)] [] s := by
  unfold zX_Leaders_leadOperands_J76 at h
  refine zr_aload_n C dX3_leadOperands_76 (q := 77) rfl 2 rfl rfl ?_
  refine zr_get C dX3_leadOperands_77 (q := 80) zX_gX3_49_18 rfl ?_
  refine zr_get C dX3_leadOperands_80 (q := 83) zX_gX3_90_24 rfl ?_
  refine zr_iload C dX3_leadOperands_83 (q := 85) 6 rfl rfl ?_
  refine zr_iload C dX3_leadOperands_85 (q := 87) 7 rfl rfl ?_
  refine zr_iadd C dX3_leadOperands_87 (q := 88) rfl ?_
  obtain ⟨hin_88, h⟩ := zx_ck_so h
  refine zr_iald C dX3_leadOperands_88 (q := 89) zX_a25 hin_88 rfl ?_
  refine zr_top h (fun v9_4 h => ?_)
  refine zr_istore C dX3_leadOperands_89 (q := 91) (by decide) (lv' := [(9, .int v9_4), (0, .ref (zz_d Z 36)), (1, .ref (zz_d Z 11)), (2, .ref (zz_d Z 18)), (3, .ref (zz_d Z 33)), (4, .int v4), (5, .int v5), (6, .int v6), (7, .int v7), (8, .int v8)]) rfl rfl ?_
  refine zr_aload_n C dX3_leadOperands_91 (q := 92) rfl 1 rfl rfl ?_
  refine zr_get C dX3_leadOperands_92 (q := 95) zX_gX3_18_36 rfl ?_
  refine zr_get C dX3_leadOperands_95 (q := 98) zX_gX3_90_38 rfl ?_
  refine zr_iload C dX3_leadOperands_98 (q := 100) 7 rfl rfl ?_
  refine zr_iload C dX3_leadOperands_100 (q := 102) 8 rfl rfl ?_
  refine zr_iadd C dX3_leadOperands_102 (q := 103) rfl ?_
  refine zr_aload_n C dX3_leadOperands_103 (q := 104) rfl 1 rfl rfl ?_
  refine zr_aload_n C dX3_leadOperands_104 (q := 105) rfl 2 rfl rfl ?_
  refine zr_aload_n C dX3_leadOperands_105 (q := 106) rfl 3 rfl rfl ?_
  refine zr_aload_n C dX3_leadOperands_106 (q := 107) rfl 4 rfl rfl ?_
  refine zr_iload C dX3_leadOperands_107 (q := 109) 0 rfl rfl ?_
  refine zr_iload C dX3_leadOperands_109 (q := 111) 9 rfl rfl ?_
  obtain ⟨r5, hc_111, h⟩ := zx_b1_so h
  refine zr_cvI (q := 114) C (As := [.ref (zz_d Z 11), .ref (zz_d Z 18), .ref (zz_d Z 33), .int v9_4, .int v8]) (k := 36) (rest := [.int (v6 + v7), .ref (zz_d Z 39)]) dX3_leadOperands_111 (zX_Leaders_leader_met C.2.2.2.2.1 C.2.2.2.1 hc_111) zX_vX3_54 zX_o36 ⟨by decide, by decide⟩ rfl (Nat.le_of_ble_eq_true rfl) rfl rfl ?_
  obtain ⟨hin_114, h⟩ := zx_ck_so h
  refine zr_iast C dX3_leadOperands_114 (q := 115) zX_a39 hin_114 rfl ?_
  refine zr_ls h (fun s6 h => ?_)
  refine zr_iinc C dX3_leadOperands_115 (q := 118) h (by decide) 8 rfl (by decide) (lw := fun v7_7 => [(7, .int v7_7), (9, .int v9_4), (0, .ref (zz_d Z 36)), (1, .ref (zz_d Z 11)), (2, .ref (zz_d Z 18)), (3, .ref (zz_d Z 33)), (4, .int v4), (5, .int v5), (6, .int v6), (8, .int v8)]) (fun _ => rfl) rfl (fun v7_7 h => ?_)
  refine zr_goto (q := 21) C dX3_leadOperands_118 (by decide) ?_
  exact zr_sub [2, 3, 4, 5, 6, 7, 8, 0] rfl (h21 v7_7 s6 h)
set_option maxRecDepth 100000 in
set_option maxHeartbeats 4000000 in
theorem zX_Leaders_leadOperands_L21_w {Z : zx_Z} (C : zx_ok zX_sd Z cX3_leadOperands 10 RX3 2 48) {r : zx_S} (v4 v5 v6 : Int32) {k121 : zx_S → Option zx_S} (hr : zx_rV zX_sd Z cX3_leadOperands 10 r) (h121 : ∀ (s1 : zx_S), k121 s1 = some r → zW zX_sd Z 10 121 [] [] s1) : ∀ (n : Nat) (v7 : Int32) (s : zx_S), zX_Leaders_leadOperands_L21 v4 v5 v6 k121 n v7 s = some r → zW zX_sd Z 10 21 [(0, .ref (zz_d Z 36)), (1, .ref (zz_d Z 11)), (2, .ref (zz_d Z 18)), (3, .ref (zz_d Z 33)), (4, .int v4), (5, .int v5), (6, .int v6), (7, .int v7)] [] s := by
  intro n
  induction n with
  | zero => intro v7 s h; unfold zX_Leaders_leadOperands_L21 at h; cases h
  | succ n ih =>
    intro v7 s h
    unfold zX_Leaders_leadOperands_L21 at h
    refine zr_iload C dX3_leadOperands_21 (q := 23) 7 rfl rfl ?_
    refine zr_aload_n C dX3_leadOperands_23 (q := 24) rfl 2 rfl rfl ?_
    refine zr_iload C dX3_leadOperands_24 (q := 26) 4 rfl rfl ?_
    obtain ⟨r3, hc_26, h⟩ := zx_b1_so h
    refine zr_cvI (q := 29) C (As := [.int v4]) (k := 18) (rest := [.int v7]) dX3_leadOperands_26 (zX_Values_operandsOf_met C.2.2.2.2.1 C.2.2.2.1 hc_26) zX_vX3_76 zX_o18 ⟨by decide, by decide⟩ rfl (Nat.le_of_ble_eq_true rfl) rfl rfl ?_
    refine zr_icmp_ge (tgt := 121) (q := 32) C dX3_leadOperands_29 h (by decide) rfl (fun h => ?_) (fun h => ?_)
    · skip
      exact zr_sub [] rfl (h121 s h)
    · skip
      refine zr_iload C dX3_leadOperands_32 (q := 34) 5 rfl rfl ?_
      refine zr_istore C dX3_leadOperands_34 (q := 36) (by decide) (lv' := [(8, .int v5), (0, .ref (zz_d Z 36)), (1, .ref (zz_d Z 11)), (2, .ref (zz_d Z 18)), (3, .ref (zz_d Z 33)), (4, .int v4), (5, .int v5), (6, .int v6), (7, .int v7)]) rfl rfl ?_
      refine zr_aload_n C dX3_leadOperands_36 (q := 37) rfl 3 rfl rfl ?_
      refine zr_get C dX3_leadOperands_37 (q := 40) zX_gX3_80_18 rfl ?_
      refine zr_iload C dX3_leadOperands_40 (q := 42) 5 rfl rfl ?_
      obtain ⟨hin_42, h⟩ := zx_ck_so h
      refine zr_iald C dX3_leadOperands_42 (q := 43) zX_a19 hin_42 rfl ?_
      refine zr_bipush C dX3_leadOperands_43 (q := 45) (v := (15 : Int32)) (by decide) rfl ?_
      refine zr_icmp_ne (tgt := 76) (q := 48) C dX3_leadOperands_45 h (by decide) rfl (fun h => ?_) (fun h => ?_)
      · skip
        exact zr_sub [1, 2, 3, 4, 5, 6, 7, 8, 0] rfl (zX_Leaders_leadOperands_J76_w C v4 v5 v6 v7 v5 s hr (ih) h)
      · skip
        refine zr_aload_n C dX3_leadOperands_48 (q := 49) rfl 2 rfl rfl ?_
        refine zr_get C dX3_leadOperands_49 (q := 52) zX_gX3_83_11 rfl ?_
        refine zr_iload C dX3_leadOperands_52 (q := 54) 6 rfl rfl ?_
        obtain ⟨hin_54, h⟩ := zx_ck_so h
        refine zr_iald C dX3_leadOperands_54 (q := 55) zX_a13 hin_54 rfl ?_
        refine zr_iload C dX3_leadOperands_55 (q := 57) 8 rfl rfl ?_
        obtain ⟨r8, hc_57, h⟩ := zx_b1_so h
        refine zr_csI (q := 60) C (As := [.int (s 13 (v5).toNatClampNeg), .int v7]) (rest := []) dX3_leadOperands_57 (zX_Graph_nthOf_met C.2.2.2.2.1 C.2.2.2.1 hc_57) zX_sX3_86 ⟨by decide, by decide⟩ rfl (Nat.le_of_ble_eq_true rfl) rfl rfl ?_
        refine zr_istore C dX3_leadOperands_60 (q := 62) (by decide) (lv' := [(9, .int r8), (8, .int v5), (0, .ref (zz_d Z 36)), (1, .ref (zz_d Z 11)), (2, .ref (zz_d Z 18)), (3, .ref (zz_d Z 33)), (4, .int v4), (5, .int v5), (6, .int v6), (7, .int v7)]) rfl rfl ?_
        refine zr_iload C dX3_leadOperands_62 (q := 64) 0 rfl rfl ?_
        refine zr_iconst C dX3_leadOperands_64 (q := 65) (v := (-1 : Int32)) (by decide) rfl ?_
        refine zr_icmp_ne (tgt := 72) (q := 68) C dX3_leadOperands_65 h (by decide) rfl (fun h => ?_) (fun h => ?_)
        · skip
          refine zr_iload C dX3_leadOperands_72 (q := 74) 0 rfl rfl ?_
          refine zr_istore C dX3_leadOperands_74 (q := 76) (by decide) (lv' := [(8, .int r8), (9, .int r8), (0, .ref (zz_d Z 36)), (1, .ref (zz_d Z 11)), (2, .ref (zz_d Z 18)), (3, .ref (zz_d Z 33)), (4, .int v4), (5, .int v5), (6, .int v6), (7, .int v7)]) rfl rfl ?_
          exact zr_sub [2, 3, 4, 5, 6, 7, 8, 9, 0] rfl (zX_Leaders_leadOperands_J76_w C v4 v5 v6 v7 r8 s hr (ih) h)
        · skip
          refine zr_iconst C dX3_leadOperands_68 (q := 69) (v := (0 : Int32)) (by decide) rfl ?_
          refine zr_goto (q := 74) C dX3_leadOperands_69 (by decide) ?_
          refine zr_istore C dX3_leadOperands_74 (q := 76) (by decide) (lv' := [(8, .int (0 : Int32)), (9, .int r8), (0, .ref (zz_d Z 36)), (1, .ref (zz_d Z 11)), (2, .ref (zz_d Z 18)), (3, .ref (zz_d Z 33)), (4, .int v4), (5, .int v5), (6, .int v6), (7, .int v7)]) rfl rfl ?_
          exact zr_sub [2, 3, 4, 5, 6, 7, 8, 9, 0] rfl (zX_Leaders_leadOperands_J76_w C v4 v5 v6 v7 (0 : Int32) s hr (ih) h)
set_option maxRecDepth 100000 in
set_option maxHeartbeats 4000000 in
theorem zX_Leaders_leadOperands_w {Z : zx_Z} (C : zx_ok zX_sd Z cX3_leadOperands 10 RX3 2 48) {r : zx_S} (p4 : Int32) (s : zx_S) (hr : zx_rV zX_sd Z cX3_leadOperands 10 r) (h : zX_Leaders_leadOperands p4 s = some r) : zW zX_sd Z 10 0 [(0, .ref (zz_d Z 36)), (1, .ref (zz_d Z 11)), (2, .ref (zz_d Z 18)), (3, .ref (zz_d Z 33)), (4, .int p4)] [] s := by
  unfold zX_Leaders_leadOperands at h
  refine zr_aload_n C dX3_leadOperands_0 (q := 1) rfl 2 rfl rfl ?_
  refine zr_get C dX3_leadOperands_1 (q := 4) zX_gX3_63_18 rfl ?_
  refine zr_iload C dX3_leadOperands_4 (q := 6) 4 rfl rfl ?_
  obtain ⟨hin_6, h⟩ := zx_ck_so h
  refine zr_iald C dX3_leadOperands_6 (q := 7) zX_a20 hin_6 rfl ?_
  refine zr_top h (fun v5_1 h => ?_)
  refine zr_istore C dX3_leadOperands_7 (q := 9) (by decide) (lv' := [(5, .int v5_1), (0, .ref (zz_d Z 36)), (1, .ref (zz_d Z 11)), (2, .ref (zz_d Z 18)), (3, .ref (zz_d Z 33)), (4, .int p4)]) rfl rfl ?_
  refine zr_aload_n C dX3_leadOperands_9 (q := 10) rfl 3 rfl rfl ?_
  refine zr_get C dX3_leadOperands_10 (q := 13) zX_gX3_73_18 rfl ?_
  refine zr_iload C dX3_leadOperands_13 (q := 15) 5 rfl rfl ?_
  obtain ⟨hin_15, h⟩ := zx_ck_so h
  refine zr_iald C dX3_leadOperands_15 (q := 16) zX_a23 hin_15 rfl ?_
  refine zr_top h (fun v6_2 h => ?_)
  refine zr_istore C dX3_leadOperands_16 (q := 18) (by decide) (lv' := [(6, .int v6_2), (5, .int v5_1), (0, .ref (zz_d Z 36)), (1, .ref (zz_d Z 11)), (2, .ref (zz_d Z 18)), (3, .ref (zz_d Z 33)), (4, .int p4)]) rfl rfl ?_
  refine zr_iconst C dX3_leadOperands_18 (q := 19) (v := (0 : Int32)) (by decide) rfl ?_
  refine zr_istore C dX3_leadOperands_19 (q := 21) (by decide) (lv' := [(7, .int (0 : Int32)), (6, .int v6_2), (5, .int v5_1), (0, .ref (zz_d Z 36)), (1, .ref (zz_d Z 11)), (2, .ref (zz_d Z 18)), (3, .ref (zz_d Z 33)), (4, .int p4)]) rfl rfl ?_
  refine zr_sub [3, 4, 5, 6, 7, 2, 1, 0] rfl (zX_Leaders_leadOperands_L21_w C p4 v5_1 v6_2 hr (fun s9 h => ?_) 10000 (0 : Int32) s h)
  · skip
    exact zr_retV dX3_leadOperands_121 h hr
theorem zX_Leaders_leadOperands_met {l : Launch} {D : va_G} {cz : ClassId × ClassId} {ad : Nat → Nat} (hS : zx_So zX_sd) (hi : zx_I zX_sd ad) {p4 : Int32} {s : zx_S} {s1 : zx_S} (h : zX_Leaders_leadOperands p4 s = some s1) : zx_MV zX_sd l D cz ad yX3_leadOperands cX3_leadOperands 10 2 48 [.ref (ad 36), .ref (ad 11), .ref (ad 18), .ref (ad 33), .int p4] s s1 := zx_metV hS hi (by decide +kernel) rfl (Nat.le_of_ble_eq_true rfl) (fun Z e1 e2 e3 e4 C hr => by subst e1 e2 e3 e4; exact zX_Leaders_leadOperands_w C p4 s hr h)
set_option maxRecDepth 100000 in
set_option maxHeartbeats 4000000 in
theorem zX_Leaders_leadEmits_L9_w {Z : zx_Z} (C : zx_ok zX_sd Z cX3_leadEmits 7 RX3 2 48) {r : zx_S} (v5 : Int32) {k71 : zx_S → Option zx_S} (hr : zx_rV zX_sd Z cX3_leadEmits 7 r) (h71 : ∀ (s1 : zx_S), k71 s1 = some r → zW zX_sd Z 7 71 [] [] s1) : ∀ (n : Nat) (v6 : Int32) (s : zx_S), zX_Leaders_leadEmits_L9 v5 k71 n v6 s = some r → zW zX_sd Z 7 9 [(0, .ref (zz_d Z 36)), (1, .ref (zz_d Z 1)), (2, .ref (zz_d Z 11)), (3, .ref (zz_d Z 18)), (4, .ref (zz_d Z 33)), (5, .int v5), (6, .int v6)] [] s := by
  intro n
  induction n with
  | zero => intro v6 s h; unfold zX_Leaders_leadEmits_L9 at h; cases h
  | succ n ih =>
    intro v6 s h
    unfold zX_Leaders_leadEmits_L9 at h
    refine zr_iload C dX3_leadEmits_9 (q := 11) 6 rfl rfl ?_
    refine zr_aload_n C dX3_leadEmits_11 (q := 12) rfl 1 rfl rfl ?_
    refine zr_get C dX3_leadEmits_12 (q := 15) zX_gX3_93_1 rfl ?_
    refine zr_iload C dX3_leadEmits_15 (q := 17) 5 rfl rfl ?_
    refine zr_iconst C dX3_leadEmits_17 (q := 18) (v := (1 : Int32)) (by decide) rfl ?_
    refine zr_iadd C dX3_leadEmits_18 (q := 19) rfl ?_
    obtain ⟨hin_19, h⟩ := zx_ck_so h
    refine zr_iald C dX3_leadEmits_19 (q := 20) zX_a2 hin_19 rfl ?_
    refine zr_icmp_ge (tgt := 71) (q := 23) C dX3_leadEmits_20 h (by decide) rfl (fun h => ?_) (fun h => ?_)
    · skip
      exact zr_sub [] rfl (h71 s h)
    · skip
      refine zr_aload_n C dX3_leadEmits_23 (q := 24) rfl 1 rfl rfl ?_
      refine zr_get C dX3_leadEmits_24 (q := 27) zX_gX3_98_1 rfl ?_
      refine zr_iload C dX3_leadEmits_27 (q := 29) 6 rfl rfl ?_
      obtain ⟨hin_29, h⟩ := zx_ck_so h
      refine zr_iald C dX3_leadEmits_29 (q := 30) zX_a3 hin_29 rfl ?_
      refine zr_bipush C dX3_leadEmits_30 (q := 32) (v := (14 : Int32)) (by decide) rfl ?_
      refine zr_icmp_ne (tgt := 65) (q := 35) C dX3_leadEmits_32 h (by decide) rfl (fun h => ?_) (fun h => ?_)
      · skip
        refine zr_iinc C dX3_leadEmits_65 (q := 68) h (by decide) 6 rfl (by decide) (lw := fun v6_5 => [(6, .int v6_5), (0, .ref (zz_d Z 36)), (1, .ref (zz_d Z 1)), (2, .ref (zz_d Z 11)), (3, .ref (zz_d Z 18)), (4, .ref (zz_d Z 33)), (5, .int v5)]) (fun _ => rfl) rfl (fun v6_5 h => ?_)
        refine zr_goto (q := 9) C dX3_leadEmits_68 (by decide) ?_
        exact zr_sub [1, 2, 3, 4, 5, 6, 0] rfl (ih v6_5 s h)
      · skip
        refine zr_aload_n C dX3_leadEmits_35 (q := 36) rfl 0 rfl rfl ?_
        refine zr_get C dX3_leadEmits_36 (q := 39) zX_gX3_18_36 rfl ?_
        refine zr_get C dX3_leadEmits_39 (q := 42) zX_gX3_99_38 rfl ?_
        refine zr_iload C dX3_leadEmits_42 (q := 44) 6 rfl rfl ?_
        refine zr_aload_n C dX3_leadEmits_44 (q := 45) rfl 0 rfl rfl ?_
        refine zr_aload_n C dX3_leadEmits_45 (q := 46) rfl 2 rfl rfl ?_
        refine zr_aload_n C dX3_leadEmits_46 (q := 47) rfl 3 rfl rfl ?_
        refine zr_aload C dX3_leadEmits_47 (q := 49) 4 rfl rfl ?_
        refine zr_aload_n C dX3_leadEmits_49 (q := 50) rfl 3 rfl rfl ?_
        refine zr_get C dX3_leadEmits_50 (q := 53) zX_gX3_49_18 rfl ?_
        refine zr_get C dX3_leadEmits_53 (q := 56) zX_gX3_99_24 rfl ?_
        refine zr_iload C dX3_leadEmits_56 (q := 58) 6 rfl rfl ?_
        obtain ⟨hin_58, h⟩ := zx_ck_so h
        refine zr_iald C dX3_leadEmits_58 (q := 59) zX_a26 hin_58 rfl ?_
        refine zr_iload C dX3_leadEmits_59 (q := 61) 5 rfl rfl ?_
        obtain ⟨r2, hc_61, h⟩ := zx_b1_so h
        refine zr_cvI (q := 64) C (As := [.ref (zz_d Z 11), .ref (zz_d Z 18), .ref (zz_d Z 33), .int (s 26 (v6).toNatClampNeg), .int v5]) (k := 36) (rest := [.int v6, .ref (zz_d Z 40)]) dX3_leadEmits_61 (zX_Leaders_leader_met C.2.2.2.2.1 C.2.2.2.1 hc_61) zX_vX3_54 zX_o36 ⟨by decide, by decide⟩ rfl (Nat.le_of_ble_eq_true rfl) rfl rfl ?_
        obtain ⟨hin_64, h⟩ := zx_ck_so h
        refine zr_iast C dX3_leadEmits_64 (q := 65) zX_a40 hin_64 rfl ?_
        refine zr_ls h (fun s3 h => ?_)
        refine zr_iinc C dX3_leadEmits_65 (q := 68) h (by decide) 6 rfl (by decide) (lw := fun v6_4 => [(6, .int v6_4), (0, .ref (zz_d Z 36)), (1, .ref (zz_d Z 1)), (2, .ref (zz_d Z 11)), (3, .ref (zz_d Z 18)), (4, .ref (zz_d Z 33)), (5, .int v5)]) (fun _ => rfl) rfl (fun v6_4 h => ?_)
        refine zr_goto (q := 9) C dX3_leadEmits_68 (by decide) ?_
        exact zr_sub [1, 2, 3, 4, 5, 6, 0] rfl (ih v6_4 s3 h)
set_option maxRecDepth 100000 in
set_option maxHeartbeats 4000000 in
theorem zX_Leaders_leadEmits_w {Z : zx_Z} (C : zx_ok zX_sd Z cX3_leadEmits 7 RX3 2 48) {r : zx_S} (p5 : Int32) (s : zx_S) (hr : zx_rV zX_sd Z cX3_leadEmits 7 r) (h : zX_Leaders_leadEmits p5 s = some r) : zW zX_sd Z 7 0 [(0, .ref (zz_d Z 36)), (1, .ref (zz_d Z 1)), (2, .ref (zz_d Z 11)), (3, .ref (zz_d Z 18)), (4, .ref (zz_d Z 33)), (5, .int p5)] [] s := by
  unfold zX_Leaders_leadEmits at h
  refine zr_aload_n C dX3_leadEmits_0 (q := 1) rfl 1 rfl rfl ?_
  refine zr_get C dX3_leadEmits_1 (q := 4) zX_gX3_93_1 rfl ?_
  refine zr_iload C dX3_leadEmits_4 (q := 6) 5 rfl rfl ?_
  obtain ⟨hin_6, h⟩ := zx_ck_so h
  refine zr_iald C dX3_leadEmits_6 (q := 7) zX_a2 hin_6 rfl ?_
  refine zr_top h (fun v6_1 h => ?_)
  refine zr_istore C dX3_leadEmits_7 (q := 9) (by decide) (lv' := [(6, .int v6_1), (0, .ref (zz_d Z 36)), (1, .ref (zz_d Z 1)), (2, .ref (zz_d Z 11)), (3, .ref (zz_d Z 18)), (4, .ref (zz_d Z 33)), (5, .int p5)]) rfl rfl ?_
  refine zr_sub [1, 2, 3, 4, 5, 6, 0] rfl (zX_Leaders_leadEmits_L9_w C p5 hr (fun s6 h => ?_) 10000 v6_1 s h)
  · skip
    exact zr_retV dX3_leadEmits_71 h hr
theorem zX_Leaders_leadEmits_met {l : Launch} {D : va_G} {cz : ClassId × ClassId} {ad : Nat → Nat} (hS : zx_So zX_sd) (hi : zx_I zX_sd ad) {p5 : Int32} {s : zx_S} {s1 : zx_S} (h : zX_Leaders_leadEmits p5 s = some s1) : zx_MV zX_sd l D cz ad yX3_leadEmits cX3_leadEmits 7 2 48 [.ref (ad 36), .ref (ad 1), .ref (ad 11), .ref (ad 18), .ref (ad 33), .int p5] s s1 := zx_metV hS hi (by decide +kernel) rfl (Nat.le_of_ble_eq_true rfl) (fun Z e1 e2 e3 e4 C hr => by subst e1 e2 e3 e4; exact zX_Leaders_leadEmits_w C p5 s hr h)
set_option maxRecDepth 100000 in
set_option maxHeartbeats 4000000 in
theorem zX_Leaders_lead_L8_w {Z : zx_Z} (C : zx_ok zX_sd Z cX3_lead 7 RX3 3 77) {r : zx_S} {k63 : zx_S → Option zx_S} (hr : zx_rV zX_sd Z cX3_lead 7 r) (h63 : ∀ (s1 : zx_S), k63 s1 = some r → zW zX_sd Z 7 63 [(0, .ref (zz_d Z 36)), (1, .ref (zz_d Z 1)), (2, .ref (zz_d Z 11)), (3, .ref (zz_d Z 18)), (4, .ref (zz_d Z 33))] [] s1) : ∀ (n : Nat) (v5 : Int32) (s : zx_S), zX_Leaders_lead_L8 k63 n v5 s = some r → zW zX_sd Z 7 8 [(0, .ref (zz_d Z 36)), (1, .ref (zz_d Z 1)), (2, .ref (zz_d Z 11)), (3, .ref (zz_d Z 18)), (4, .ref (zz_d Z 33)), (5, .int v5)] [] s := by
  intro n
  induction n with
  | zero => intro v5 s h; unfold zX_Leaders_lead_L8 at h; cases h
  | succ n ih =>
    intro v5 s h
    unfold zX_Leaders_lead_L8 at h
    refine zr_iload C dX3_lead_8 (q := 10) 5 rfl rfl ?_
    refine zr_aload_n C dX3_lead_10 (q := 11) rfl 3 rfl rfl ?_
    refine zr_get C dX3_lead_11 (q := 14) zX_gX3_26_18 rfl ?_
    refine zr_icmp_ge (tgt := 63) (q := 17) C dX3_lead_14 h (by decide) rfl (fun h => ?_) (fun h => ?_)
    · skip
      exact zr_sub [0, 1, 2, 3, 4] rfl (h63 s h)
    · skip
      refine zr_aload_n C dX3_lead_17 (q := 18) rfl 0 rfl rfl ?_
      refine zr_get C dX3_lead_18 (q := 21) zX_gX3_9_36 rfl ?_
      refine zr_iload C dX3_lead_21 (q := 23) 5 rfl rfl ?_
      refine zr_aload_n C dX3_lead_23 (q := 24) rfl 2 rfl rfl ?_
      refine zr_aload_n C dX3_lead_24 (q := 25) rfl 3 rfl rfl ?_
      refine zr_aload C dX3_lead_25 (q := 27) 4 rfl rfl ?_
      refine zr_iload C dX3_lead_27 (q := 29) 5 rfl rfl ?_
      obtain ⟨r2, hc_29, h⟩ := zx_b1_so h
      refine zr_csI (q := 32) C (As := [.ref (zz_d Z 11), .ref (zz_d Z 18), .ref (zz_d Z 33), .int v5]) (rest := [.int v5, .ref (zz_d Z 37)]) dX3_lead_29 (zX_Leaders_isLed_met C.2.2.2.2.1 C.2.2.2.1 hc_29) zX_sX3_31 ⟨by decide, by decide⟩ rfl (Nat.le_of_ble_eq_true rfl) rfl rfl ?_
      obtain ⟨hin_32, h⟩ := zx_ck_so h
      refine zr_zast C dX3_lead_32 (q := 33) zX_a37 hin_32 rfl ?_
      refine zr_ls h (fun s3 h => ?_)
      refine zr_aload_n C dX3_lead_33 (q := 34) rfl 0 rfl rfl ?_
      refine zr_dup C dX3_lead_34 (q := 35) rfl rfl ?_
      refine zr_get C dX3_lead_35 (q := 38) zX_gX3_22_36 rfl ?_
      refine zr_aload_n C dX3_lead_38 (q := 39) rfl 0 rfl rfl ?_
      refine zr_get C dX3_lead_39 (q := 42) zX_gX3_9_36 rfl ?_
      refine zr_iload C dX3_lead_42 (q := 44) 5 rfl rfl ?_
      obtain ⟨hin_44, h⟩ := zx_ck_so h
      refine zr_zald C dX3_lead_44 (q := 45) zX_a37 hin_44 rfl ?_
      refine zr_if_eq (tgt := 52) (q := 48) C dX3_lead_45 h (by decide) rfl (fun h => ?_) (fun h => ?_)
      · skip
        refine zr_iconst C dX3_lead_52 (q := 53) (v := (0 : Int32)) (by decide) rfl ?_
        refine zr_iadd C dX3_lead_53 (q := 54) rfl ?_
        refine zr_top h (fun x7 h => ?_)
        refine zr_put C dX3_lead_54 (q := 57) zX_pX3_22_36 rfl rfl rfl ?_
        refine zr_ls h (fun s8 h => ?_)
        refine zr_iinc C dX3_lead_57 (q := 60) h (by decide) 5 rfl (by decide) (lw := fun v5_9 => [(5, .int v5_9), (0, .ref (zz_d Z 36)), (1, .ref (zz_d Z 1)), (2, .ref (zz_d Z 11)), (3, .ref (zz_d Z 18)), (4, .ref (zz_d Z 33))]) (fun _ => rfl) rfl (fun v5_9 h => ?_)
        refine zr_goto (q := 8) C dX3_lead_60 (by decide) ?_
        exact zr_sub [1, 2, 3, 4, 5, 0] rfl (ih v5_9 s8 h)
      · skip
        refine zr_iconst C dX3_lead_48 (q := 49) (v := (1 : Int32)) (by decide) rfl ?_
        refine zr_goto (q := 53) C dX3_lead_49 (by decide) ?_
        refine zr_iadd C dX3_lead_53 (q := 54) rfl ?_
        refine zr_top h (fun x4 h => ?_)
        refine zr_put C dX3_lead_54 (q := 57) zX_pX3_22_36 rfl rfl rfl ?_
        refine zr_ls h (fun s5 h => ?_)
        refine zr_iinc C dX3_lead_57 (q := 60) h (by decide) 5 rfl (by decide) (lw := fun v5_6 => [(5, .int v5_6), (0, .ref (zz_d Z 36)), (1, .ref (zz_d Z 1)), (2, .ref (zz_d Z 11)), (3, .ref (zz_d Z 18)), (4, .ref (zz_d Z 33))]) (fun _ => rfl) rfl (fun v5_6 h => ?_)
        refine zr_goto (q := 8) C dX3_lead_60 (by decide) ?_
        exact zr_sub [1, 2, 3, 4, 5, 0] rfl (ih v5_6 s5 h)
set_option maxRecDepth 100000 in
set_option maxHeartbeats 4000000 in
theorem zX_Leaders_lead_L66_w {Z : zx_Z} (C : zx_ok zX_sd Z cX3_lead 7 RX3 3 77) {r : zx_S} {k101 : zx_S → Option zx_S} (hr : zx_rV zX_sd Z cX3_lead 7 r) (h101 : ∀ (s1 : zx_S), k101 s1 = some r → zW zX_sd Z 7 101 [(0, .ref (zz_d Z 36)), (1, .ref (zz_d Z 1)), (2, .ref (zz_d Z 11)), (3, .ref (zz_d Z 18)), (4, .ref (zz_d Z 33))] [] s1) : ∀ (n : Nat) (v5 : Int32) (s : zx_S), zX_Leaders_lead_L66 k101 n v5 s = some r → zW zX_sd Z 7 66 [(0, .ref (zz_d Z 36)), (1, .ref (zz_d Z 1)), (2, .ref (zz_d Z 11)), (3, .ref (zz_d Z 18)), (4, .ref (zz_d Z 33)), (5, .int v5)] [] s := by
  intro n
  induction n with
  | zero => intro v5 s h; unfold zX_Leaders_lead_L66 at h; cases h
  | succ n ih =>
    intro v5 s h
    unfold zX_Leaders_lead_L66 at h
    refine zr_iload C dX3_lead_66 (q := 68) 5 rfl rfl ?_
    refine zr_aload_n C dX3_lead_68 (q := 69) rfl 3 rfl rfl ?_
    refine zr_get C dX3_lead_69 (q := 72) zX_gX3_26_18 rfl ?_
    refine zr_icmp_ge (tgt := 101) (q := 75) C dX3_lead_72 h (by decide) rfl (fun h => ?_) (fun h => ?_)
    · skip
      exact zr_sub [0, 1, 2, 3, 4] rfl (h101 s h)
    · skip
      refine zr_aload_n C dX3_lead_75 (q := 76) rfl 0 rfl rfl ?_
      refine zr_get C dX3_lead_76 (q := 79) zX_gX3_9_36 rfl ?_
      refine zr_iload C dX3_lead_79 (q := 81) 5 rfl rfl ?_
      obtain ⟨hin_81, h⟩ := zx_ck_so h
      refine zr_zald C dX3_lead_81 (q := 82) zX_a37 hin_81 rfl ?_
      refine zr_if_ne (tgt := 95) (q := 85) C dX3_lead_82 h (by decide) rfl (fun h => ?_) (fun h => ?_)
      · skip
        refine zr_iinc C dX3_lead_95 (q := 98) h (by decide) 5 rfl (by decide) (lw := fun v5_13 => [(5, .int v5_13), (0, .ref (zz_d Z 36)), (1, .ref (zz_d Z 1)), (2, .ref (zz_d Z 11)), (3, .ref (zz_d Z 18)), (4, .ref (zz_d Z 33))]) (fun _ => rfl) rfl (fun v5_13 h => ?_)
        refine zr_goto (q := 66) C dX3_lead_98 (by decide) ?_
        exact zr_sub [1, 2, 3, 4, 5, 0] rfl (ih v5_13 s h)
      · skip
        refine zr_aload_n C dX3_lead_85 (q := 86) rfl 0 rfl rfl ?_
        refine zr_aload_n C dX3_lead_86 (q := 87) rfl 2 rfl rfl ?_
        refine zr_aload_n C dX3_lead_87 (q := 88) rfl 3 rfl rfl ?_
        refine zr_aload C dX3_lead_88 (q := 90) 4 rfl rfl ?_
        refine zr_iload C dX3_lead_90 (q := 92) 5 rfl rfl ?_
        obtain ⟨s11, hc_92, h⟩ := zx_b1_so h
        refine zr_cvV (q := 95) C (As := [.ref (zz_d Z 11), .ref (zz_d Z 18), .ref (zz_d Z 33), .int v5]) (k := 36) (rest := []) dX3_lead_92 (zX_Leaders_leadOperands_met C.2.2.2.2.1 C.2.2.2.1 hc_92) zX_vX3_35 zX_o36 ⟨by decide, by decide⟩ rfl (Nat.le_of_ble_eq_true rfl) rfl rfl ?_
        refine zr_iinc C dX3_lead_95 (q := 98) h (by decide) 5 rfl (by decide) (lw := fun v5_12 => [(5, .int v5_12), (0, .ref (zz_d Z 36)), (1, .ref (zz_d Z 1)), (2, .ref (zz_d Z 11)), (3, .ref (zz_d Z 18)), (4, .ref (zz_d Z 33))]) (fun _ => rfl) rfl (fun v5_12 h => ?_)
        refine zr_goto (q := 66) C dX3_lead_98 (by decide) ?_
        exact zr_sub [1, 2, 3, 4, 5, 0] rfl (ih v5_12 s11 h)
set_option maxRecDepth 100000 in
set_option maxHeartbeats 4000000 in
theorem zX_Leaders_lead_L104_w {Z : zx_Z} (C : zx_ok zX_sd Z cX3_lead 7 RX3 3 77) {r : zx_S} {k181 : zx_S → Option zx_S} (hr : zx_rV zX_sd Z cX3_lead 7 r) (h181 : ∀ (s1 : zx_S), k181 s1 = some r → zW zX_sd Z 7 181 [] [] s1) : ∀ (n : Nat) (v5 : Int32) (s : zx_S), zX_Leaders_lead_L104 k181 n v5 s = some r → zW zX_sd Z 7 104 [(0, .ref (zz_d Z 36)), (1, .ref (zz_d Z 1)), (2, .ref (zz_d Z 11)), (3, .ref (zz_d Z 18)), (4, .ref (zz_d Z 33)), (5, .int v5)] [] s := by
  intro n
  induction n with
  | zero => intro v5 s h; unfold zX_Leaders_lead_L104 at h; cases h
  | succ n ih =>
    intro v5 s h
    unfold zX_Leaders_lead_L104 at h
    refine zr_iload C dX3_lead_104 (q := 106) 5 rfl rfl ?_
    refine zr_bipush C dX3_lead_106 (q := 108) (v := (16 : Int32)) (by decide) rfl ?_
    refine zr_icmp_ge (tgt := 181) (q := 111) C dX3_lead_108 h (by decide) rfl (fun h => ?_) (fun h => ?_)
    · skip
      exact zr_sub [] rfl (h181 s h)
    · skip
      refine zr_aload_n C dX3_lead_111 (q := 112) rfl 2 rfl rfl ?_
      refine zr_iload C dX3_lead_112 (q := 114) 5 rfl rfl ?_
      obtain ⟨r15, hc_114, h⟩ := zx_b1_so h
      refine zr_cvI (q := 117) C (As := [.int v5]) (k := 11) (rest := []) dX3_lead_114 (zX_Graph_reaches_met C.2.2.2.2.1 C.2.2.2.1 hc_114) zX_vX3_39 zX_o11 ⟨by decide, by decide⟩ rfl (Nat.le_of_ble_eq_true rfl) rfl rfl ?_
      refine zr_if_eq (tgt := 175) (q := 120) C dX3_lead_117 h (by decide) rfl (fun h => ?_) (fun h => ?_)
      · skip
        refine zr_iinc C dX3_lead_175 (q := 178) h (by decide) 5 rfl (by decide) (lw := fun v5_23 => [(5, .int v5_23), (0, .ref (zz_d Z 36)), (1, .ref (zz_d Z 1)), (2, .ref (zz_d Z 11)), (3, .ref (zz_d Z 18)), (4, .ref (zz_d Z 33))]) (fun _ => rfl) rfl (fun v5_23 h => ?_)
        refine zr_goto (q := 104) C dX3_lead_178 (by decide) ?_
        exact zr_sub [1, 2, 3, 4, 5, 0] rfl (ih v5_23 s h)
      · skip
        refine zr_aload_n C dX3_lead_120 (q := 121) rfl 0 rfl rfl ?_
        refine zr_aload_n C dX3_lead_121 (q := 122) rfl 1 rfl rfl ?_
        refine zr_aload_n C dX3_lead_122 (q := 123) rfl 2 rfl rfl ?_
        refine zr_aload_n C dX3_lead_123 (q := 124) rfl 3 rfl rfl ?_
        refine zr_aload C dX3_lead_124 (q := 126) 4 rfl rfl ?_
        refine zr_iload C dX3_lead_126 (q := 128) 5 rfl rfl ?_
        obtain ⟨s16, hc_128, h⟩ := zx_b1_so h
        refine zr_cvV (q := 131) C (As := [.ref (zz_d Z 1), .ref (zz_d Z 11), .ref (zz_d Z 18), .ref (zz_d Z 33), .int v5]) (k := 36) (rest := []) dX3_lead_128 (zX_Leaders_leadEmits_met C.2.2.2.2.1 C.2.2.2.1 hc_128) zX_vX3_45 zX_o36 ⟨by decide, by decide⟩ rfl (Nat.le_of_ble_eq_true rfl) rfl rfl ?_
        refine zr_aload_n C dX3_lead_131 (q := 132) rfl 3 rfl rfl ?_
        refine zr_get C dX3_lead_132 (q := 135) zX_gX3_49_18 rfl ?_
        refine zr_get C dX3_lead_135 (q := 138) zX_gX3_50_24 rfl ?_
        refine zr_iload C dX3_lead_138 (q := 140) 5 rfl rfl ?_
        obtain ⟨hin_140, h⟩ := zx_ck_so h
        refine zr_iald C dX3_lead_140 (q := 141) zX_a27 hin_140 rfl ?_
        refine zr_top h (fun v6_17 h => ?_)
        refine zr_istore C dX3_lead_141 (q := 143) (by decide) (lv' := [(6, .int v6_17), (0, .ref (zz_d Z 36)), (1, .ref (zz_d Z 1)), (2, .ref (zz_d Z 11)), (3, .ref (zz_d Z 18)), (4, .ref (zz_d Z 33)), (5, .int v5)]) rfl rfl ?_
        refine zr_aload_n C dX3_lead_143 (q := 144) rfl 1 rfl rfl ?_
        refine zr_get C dX3_lead_144 (q := 147) zX_gX3_18_36 rfl ?_
        refine zr_get C dX3_lead_147 (q := 150) zX_gX3_50_38 rfl ?_
        refine zr_iload C dX3_lead_150 (q := 152) 6 rfl rfl ?_
        refine zr_iload C dX3_lead_152 (q := 154) 0 rfl rfl ?_
        refine zr_iconst C dX3_lead_154 (q := 155) (v := (-1 : Int32)) (by decide) rfl ?_
        refine zr_icmp_ne (tgt := 162) (q := 158) C dX3_lead_155 h (by decide) rfl (fun h => ?_) (fun h => ?_)
        · skip
          refine zr_aload_n C dX3_lead_162 (q := 163) rfl 1 rfl rfl ?_
          refine zr_aload_n C dX3_lead_163 (q := 164) rfl 3 rfl rfl ?_
          refine zr_aload_n C dX3_lead_164 (q := 165) rfl 4 rfl rfl ?_
          refine zr_aload C dX3_lead_165 (q := 167) 5 rfl rfl ?_
          refine zr_iload C dX3_lead_167 (q := 169) 0 rfl rfl ?_
          refine zr_iload C dX3_lead_169 (q := 171) 6 rfl rfl ?_
          obtain ⟨r20, hc_171, h⟩ := zx_b1_so h
          refine zr_cvI (q := 174) C (As := [.ref (zz_d Z 11), .ref (zz_d Z 18), .ref (zz_d Z 33), .int v6_17, .int v5]) (k := 36) (rest := [.int v5, .ref (zz_d Z 41)]) dX3_lead_171 (zX_Leaders_leader_met C.2.2.2.2.1 C.2.2.2.1 hc_171) zX_vX3_54 zX_o36 ⟨by decide, by decide⟩ rfl (Nat.le_of_ble_eq_true rfl) rfl rfl ?_
          obtain ⟨hin_174, h⟩ := zx_ck_so h
          refine zr_iast C dX3_lead_174 (q := 175) zX_a41 hin_174 rfl ?_
          refine zr_ls h (fun s21 h => ?_)
          refine zr_iinc C dX3_lead_175 (q := 178) h (by decide) 6 rfl (by decide) (lw := fun v5_22 => [(5, .int v5_22), (6, .int v6_17), (0, .ref (zz_d Z 36)), (1, .ref (zz_d Z 1)), (2, .ref (zz_d Z 11)), (3, .ref (zz_d Z 18)), (4, .ref (zz_d Z 33))]) (fun _ => rfl) rfl (fun v5_22 h => ?_)
          refine zr_goto (q := 104) C dX3_lead_178 (by decide) ?_
          exact zr_sub [2, 3, 4, 5, 6, 0] rfl (ih v5_22 s21 h)
        · skip
          refine zr_iconst C dX3_lead_158 (q := 159) (v := (-1 : Int32)) (by decide) rfl ?_
          refine zr_goto (q := 174) C dX3_lead_159 (by decide) ?_
          obtain ⟨hin_174, h⟩ := zx_ck_so h
          refine zr_iast C dX3_lead_174 (q := 175) zX_a41 hin_174 rfl ?_
          refine zr_ls h (fun s18 h => ?_)
          refine zr_iinc C dX3_lead_175 (q := 178) h (by decide) 6 rfl (by decide) (lw := fun v5_19 => [(5, .int v5_19), (6, .int v6_17), (0, .ref (zz_d Z 36)), (1, .ref (zz_d Z 1)), (2, .ref (zz_d Z 11)), (3, .ref (zz_d Z 18)), (4, .ref (zz_d Z 33))]) (fun _ => rfl) rfl (fun v5_19 h => ?_)
          refine zr_goto (q := 104) C dX3_lead_178 (by decide) ?_
          exact zr_sub [2, 3, 4, 5, 6, 0] rfl (ih v5_19 s18 h)
set_option maxRecDepth 100000 in
set_option maxHeartbeats 4000000 in
theorem zX_Leaders_lead_w {Z : zx_Z} (C : zx_ok zX_sd Z cX3_lead 7 RX3 3 77) {r : zx_S} (s : zx_S) (hr : zx_rV zX_sd Z cX3_lead 7 r) (h : zX_Leaders_lead s = some r) : zW zX_sd Z 7 0 [(0, .ref (zz_d Z 36)), (1, .ref (zz_d Z 1)), (2, .ref (zz_d Z 11)), (3, .ref (zz_d Z 18)), (4, .ref (zz_d Z 33))] [] s := by
  unfold zX_Leaders_lead at h
  refine zr_aload_n C dX3_lead_0 (q := 1) rfl 0 rfl rfl ?_
  refine zr_iconst C dX3_lead_1 (q := 2) (v := (0 : Int32)) (by decide) rfl ?_
  refine zr_put C dX3_lead_2 (q := 5) zX_pX3_22_36 rfl rfl rfl ?_
  refine zr_ls h (fun s1 h => ?_)
  refine zr_iconst C dX3_lead_5 (q := 6) (v := (0 : Int32)) (by decide) rfl ?_
  refine zr_istore C dX3_lead_6 (q := 8) (by decide) (lv' := [(5, .int (0 : Int32)), (0, .ref (zz_d Z 36)), (1, .ref (zz_d Z 1)), (2, .ref (zz_d Z 11)), (3, .ref (zz_d Z 18)), (4, .ref (zz_d Z 33))]) rfl rfl ?_
  refine zr_sub [1, 2, 3, 4, 5, 0] rfl (zX_Leaders_lead_L8_w C hr (fun s10 h => ?_) 10000 (0 : Int32) s1 h)
  · skip
    refine zr_iconst C dX3_lead_63 (q := 64) (v := (0 : Int32)) (by decide) rfl ?_
    refine zr_istore C dX3_lead_64 (q := 66) (by decide) (lv' := [(5, .int (0 : Int32)), (0, .ref (zz_d Z 36)), (1, .ref (zz_d Z 1)), (2, .ref (zz_d Z 11)), (3, .ref (zz_d Z 18)), (4, .ref (zz_d Z 33))]) rfl rfl ?_
    refine zr_sub [1, 2, 3, 4, 5, 0] rfl (zX_Leaders_lead_L66_w C hr (fun s14 h => ?_) 10000 (0 : Int32) s10 h)
    · skip
      refine zr_iconst C dX3_lead_101 (q := 102) (v := (0 : Int32)) (by decide) rfl ?_
      refine zr_istore C dX3_lead_102 (q := 104) (by decide) (lv' := [(5, .int (0 : Int32)), (0, .ref (zz_d Z 36)), (1, .ref (zz_d Z 1)), (2, .ref (zz_d Z 11)), (3, .ref (zz_d Z 18)), (4, .ref (zz_d Z 33))]) rfl rfl ?_
      refine zr_sub [1, 2, 3, 4, 5, 0] rfl (zX_Leaders_lead_L104_w C hr (fun s24 h => ?_) 10000 (0 : Int32) s14 h)
      · skip
        exact zr_retV dX3_lead_181 h hr
theorem zX_Leaders_lead_met {l : Launch} {D : va_G} {cz : ClassId × ClassId} {ad : Nat → Nat} (hS : zx_So zX_sd) (hi : zx_I zX_sd ad) {s : zx_S} {s1 : zx_S} (h : zX_Leaders_lead s = some s1) : zx_MV zX_sd l D cz ad yX3_lead cX3_lead 7 3 77 [.ref (ad 36), .ref (ad 1), .ref (ad 11), .ref (ad 18), .ref (ad 33)] s s1 := zx_metV hS hi (by decide +kernel) rfl (Nat.le_of_ble_eq_true rfl) (fun Z e1 e2 e3 e4 C hr => by subst e1 e2 e3 e4; exact zX_Leaders_lead_w C s hr h)
set_option maxRecDepth 100000 in
set_option maxHeartbeats 4000000 in
theorem zX_ValueBench_refresh_w {Z : zx_Z} (C : zx_ok zX_sd Z cX10_refresh 1 RX10 5 120) {r : zx_S} (s : zx_S) (hr : zx_rV zX_sd Z cX10_refresh 1 r) (h : zX_ValueBench_refresh s = some r) : zW zX_sd Z 1 0 [(0, .ref (zz_d Z 0))] [] s := by
  unfold zX_ValueBench_refresh at h
  refine zr_aload_n C dX10_refresh_0 (q := 1) rfl 0 rfl rfl ?_
  refine zr_get C dX10_refresh_1 (q := 4) zX_gX10_71_0 rfl ?_
  refine zr_if_ne (tgt := 8) (q := 7) C dX10_refresh_4 h (by decide) rfl (fun h => ?_) (fun h => ?_)
  · skip
    refine zr_aload_n C dX10_refresh_8 (q := 9) rfl 0 rfl rfl ?_
    refine zr_get C dX10_refresh_9 (q := 12) zX_gX10_19_0 rfl ?_
    refine zr_aload_n C dX10_refresh_12 (q := 13) rfl 0 rfl rfl ?_
    refine zr_get C dX10_refresh_13 (q := 16) zX_gX10_12_0 rfl ?_
    obtain ⟨s1, hc_16, h⟩ := zx_b1_so h
    refine zr_cvV (q := 19) C (As := [.ref (zz_d Z 1)]) (k := 11) (rest := []) dX10_refresh_16 (zX_Graph_draw_met C.2.2.2.2.1 C.2.2.2.1 hc_16) zX_vX10_240 zX_o11 ⟨by decide, by decide⟩ rfl (Nat.le_of_ble_eq_true rfl) rfl rfl ?_
    refine zr_aload_n C dX10_refresh_19 (q := 20) rfl 0 rfl rfl ?_
    refine zr_get C dX10_refresh_20 (q := 23) zX_gX10_26_0 rfl ?_
    refine zr_aload_n C dX10_refresh_23 (q := 24) rfl 0 rfl rfl ?_
    refine zr_get C dX10_refresh_24 (q := 27) zX_gX10_12_0 rfl ?_
    refine zr_aload_n C dX10_refresh_27 (q := 28) rfl 0 rfl rfl ?_
    refine zr_get C dX10_refresh_28 (q := 31) zX_gX10_19_0 rfl ?_
    obtain ⟨s2, hc_31, h⟩ := zx_b1_so h
    refine zr_cvV (q := 34) C (As := [.ref (zz_d Z 1), .ref (zz_d Z 11)]) (k := 18) (rest := []) dX10_refresh_31 (zX_Values_make_met C.2.2.2.2.1 C.2.2.2.1 hc_31) zX_vX10_243 zX_o18 ⟨by decide, by decide⟩ rfl (Nat.le_of_ble_eq_true rfl) rfl rfl ?_
    refine zr_aload_n C dX10_refresh_34 (q := 35) rfl 0 rfl rfl ?_
    refine zr_get C dX10_refresh_35 (q := 38) zX_gX10_33_0 rfl ?_
    refine zr_aload_n C dX10_refresh_38 (q := 39) rfl 0 rfl rfl ?_
    refine zr_get C dX10_refresh_39 (q := 42) zX_gX10_26_0 rfl ?_
    obtain ⟨s3, hc_42, h⟩ := zx_b1_so h
    refine zr_cvV (q := 45) C (As := [.ref (zz_d Z 18)]) (k := 33) (rest := []) dX10_refresh_42 (zX_Classes_part_met C.2.2.2.2.1 C.2.2.2.1 hc_42) zX_vX10_247 zX_o33 ⟨by decide, by decide⟩ rfl (Nat.le_of_ble_eq_true rfl) rfl rfl ?_
    refine zr_aload_n C dX10_refresh_45 (q := 46) rfl 0 rfl rfl ?_
    refine zr_get C dX10_refresh_46 (q := 49) zX_gX10_40_0 rfl ?_
    refine zr_aload_n C dX10_refresh_49 (q := 50) rfl 0 rfl rfl ?_
    refine zr_get C dX10_refresh_50 (q := 53) zX_gX10_12_0 rfl ?_
    refine zr_aload_n C dX10_refresh_53 (q := 54) rfl 0 rfl rfl ?_
    refine zr_get C dX10_refresh_54 (q := 57) zX_gX10_19_0 rfl ?_
    refine zr_aload_n C dX10_refresh_57 (q := 58) rfl 0 rfl rfl ?_
    refine zr_get C dX10_refresh_58 (q := 61) zX_gX10_26_0 rfl ?_
    refine zr_aload_n C dX10_refresh_61 (q := 62) rfl 0 rfl rfl ?_
    refine zr_get C dX10_refresh_62 (q := 65) zX_gX10_33_0 rfl ?_
    obtain ⟨s4, hc_65, h⟩ := zx_b1_so h
    refine zr_cvV (q := 68) C (As := [.ref (zz_d Z 1), .ref (zz_d Z 11), .ref (zz_d Z 18), .ref (zz_d Z 33)]) (k := 36) (rest := []) dX10_refresh_65 (zX_Leaders_lead_met C.2.2.2.2.1 C.2.2.2.1 hc_65) zX_vX10_251 zX_o36 ⟨by decide, by decide⟩ rfl (Nat.le_of_ble_eq_true rfl) rfl rfl ?_
    refine zr_aload_n C dX10_refresh_68 (q := 69) rfl 0 rfl rfl ?_
    refine zr_iconst C dX10_refresh_69 (q := 70) (v := (0 : Int32)) (by decide) rfl ?_
    refine zr_put C dX10_refresh_70 (q := 73) zX_pX10_71_0 (by decide) (by decide) rfl ?_
    refine zr_ls h (fun s5 h => ?_)
    exact zr_retV dX10_refresh_73 h hr
  · skip
    exact zr_retV dX10_refresh_7 h hr
theorem zX_ValueBench_refresh_met {l : Launch} {D : va_G} {cz : ClassId × ClassId} {ad : Nat → Nat} (hS : zx_So zX_sd) (hi : zx_I zX_sd ad) {s : zx_S} {s1 : zx_S} (h : zX_ValueBench_refresh s = some s1) : zx_MV zX_sd l D cz ad yX10_refresh cX10_refresh 1 5 120 [.ref (ad 0)] s s1 := zx_metV hS hi (by decide +kernel) rfl (Nat.le_of_ble_eq_true rfl) (fun Z e1 e2 e3 e4 C hr => by subst e1 e2 e3 e4; exact zX_ValueBench_refresh_w C s hr h)
set_option maxRecDepth 100000 in
set_option maxHeartbeats 4000000 in
theorem zX_ValueBench_aboutReached_w {Z : zx_Z} (C : zx_ok zX_sd Z cX10_aboutReached 3 RX10 1 20) {r : Int32} (p1 p2 : Int32) (s : zx_S) (hr : zx_rI zX_sd Z cX10_aboutReached 3 .int r s) (h : zX_ValueBench_aboutReached p1 p2 s = some r) : zW zX_sd Z 3 0 [(0, .ref (zz_d Z 0)), (1, .int p1), (2, .int p2)] [] s := by
  unfold zX_ValueBench_aboutReached at h
  refine zr_iload_n C dX10_aboutReached_0 (q := 1) rfl 2 rfl rfl ?_
  by_cases e0 : p2 = (1 : Int32)
  · rw [if_pos e0] at h
    refine zr_tableIn (tgt := 36) (off := 35) C dX10_aboutReached_1 (by rw [e0]; decide) (by rw [e0]; decide) (by rw [e0] <;> exact rfl) (by decide) ?_
    refine zr_aload_n C dX10_aboutReached_36 (q := 37) rfl 0 rfl rfl ?_
    refine zr_get C dX10_aboutReached_37 (q := 40) zX_gX10_19_0 rfl ?_
    refine zr_get C dX10_aboutReached_40 (q := 43) zX_gX10_122_11 rfl ?_
    refine zr_iload_n C dX10_aboutReached_43 (q := 44) rfl 1 rfl rfl ?_
    obtain ⟨hin_44, h⟩ := zx_ck_so h
    refine zr_iald C dX10_aboutReached_44 (q := 45) zX_a16 hin_44 rfl ?_
    exact zr_retR dX10_aboutReached_45 h hr
  · rw [if_neg e0] at h
    by_cases e1 : p2 = (2 : Int32)
    · rw [if_pos e1] at h
      refine zr_tableIn (tgt := 46) (off := 45) C dX10_aboutReached_1 (by rw [e1]; decide) (by rw [e1]; decide) (by rw [e1] <;> exact rfl) (by decide) ?_
      refine zr_aload_n C dX10_aboutReached_46 (q := 47) rfl 0 rfl rfl ?_
      refine zr_get C dX10_aboutReached_47 (q := 50) zX_gX10_19_0 rfl ?_
      refine zr_get C dX10_aboutReached_50 (q := 53) zX_gX10_125_11 rfl ?_
      refine zr_iload_n C dX10_aboutReached_53 (q := 54) rfl 1 rfl rfl ?_
      obtain ⟨hin_54, h⟩ := zx_ck_so h
      refine zr_iald C dX10_aboutReached_54 (q := 55) zX_a13 hin_54 rfl ?_
      obtain ⟨r2, hc_55, h⟩ := zx_b1_so h
      refine zr_csI (q := 58) C (As := [.int (s 13 (p1).toNatClampNeg)]) (rest := []) dX10_aboutReached_55 (zX_Integer_bitCount_met C.2.2.2.2.1 C.2.2.2.1 hc_55) zX_sX10_128 ⟨by decide, by decide⟩ rfl (Nat.le_of_ble_eq_true rfl) rfl rfl ?_
      exact zr_retR dX10_aboutReached_58 h hr
    · rw [if_neg e1] at h
      by_cases e2 : p2 = (3 : Int32)
      · rw [if_pos e2] at h
        refine zr_tableIn (tgt := 82) (off := 81) C dX10_aboutReached_1 (by rw [e2]; decide) (by rw [e2]; decide) (by rw [e2] <;> exact rfl) (by decide) ?_
        refine zr_iconst C dX10_aboutReached_82 (q := 83) (v := (-1 : Int32)) (by decide) rfl ?_
        exact zr_retR dX10_aboutReached_83 h hr
      · rw [if_neg e2] at h
        by_cases e3 : p2 = (4 : Int32)
        · rw [if_pos e3] at h
          refine zr_tableIn (tgt := 59) (off := 58) C dX10_aboutReached_1 (by rw [e3]; decide) (by rw [e3]; decide) (by rw [e3] <;> exact rfl) (by decide) ?_
          refine zr_aload_n C dX10_aboutReached_59 (q := 60) rfl 0 rfl rfl ?_
          refine zr_get C dX10_aboutReached_60 (q := 63) zX_gX10_26_0 rfl ?_
          refine zr_get C dX10_aboutReached_63 (q := 66) zX_gX10_133_18 rfl ?_
          refine zr_iload_n C dX10_aboutReached_66 (q := 67) rfl 1 rfl rfl ?_
          obtain ⟨hin_67, h⟩ := zx_ck_so h
          refine zr_iald C dX10_aboutReached_67 (q := 68) zX_a30 hin_67 rfl ?_
          exact zr_retR dX10_aboutReached_68 h hr
        · rw [if_neg e3] at h
          by_cases e4 : p2 = (5 : Int32)
          · rw [if_pos e4] at h
            refine zr_tableIn (tgt := 69) (off := 68) C dX10_aboutReached_1 (by rw [e4]; decide) (by rw [e4]; decide) (by rw [e4] <;> exact rfl) (by decide) ?_
            refine zr_aload_n C dX10_aboutReached_69 (q := 70) rfl 0 rfl rfl ?_
            refine zr_get C dX10_aboutReached_70 (q := 73) zX_gX10_19_0 rfl ?_
            refine zr_get C dX10_aboutReached_73 (q := 76) zX_gX10_136_11 rfl ?_
            refine zr_iload_n C dX10_aboutReached_76 (q := 77) rfl 1 rfl rfl ?_
            obtain ⟨hin_77, h⟩ := zx_ck_so h
            refine zr_iald C dX10_aboutReached_77 (q := 78) zX_a17 hin_77 rfl ?_
            obtain ⟨r1, hc_78, h⟩ := zx_b1_so h
            refine zr_csI (q := 81) C (As := [.int (s 17 (p1).toNatClampNeg)]) (rest := []) dX10_aboutReached_78 (zX_Integer_bitCount_met C.2.2.2.2.1 C.2.2.2.1 hc_78) zX_sX10_128 ⟨by decide, by decide⟩ rfl (Nat.le_of_ble_eq_true rfl) rfl rfl ?_
            exact zr_retR dX10_aboutReached_81 h hr
          · rw [if_neg e4] at h
            refine zr_tableOut (tgt := 82) C dX10_aboutReached_1 (by have f0 := lv_neT (a := 1) e0 (by decide); have f1 := lv_neT (a := 2) e1 (by decide); have f2 := lv_neT (a := 3) e2 (by decide); have f3 := lv_neT (a := 4) e3 (by decide); have f4 := lv_neT (a := 5) e4 (by decide); omega) (by decide) ?_
            refine zr_iconst C dX10_aboutReached_82 (q := 83) (v := (-1 : Int32)) (by decide) rfl ?_
            exact zr_retR dX10_aboutReached_83 h hr
theorem zX_ValueBench_aboutReached_met {l : Launch} {D : va_G} {cz : ClassId × ClassId} {ad : Nat → Nat} (hS : zx_So zX_sd) (hi : zx_I zX_sd ad) {p1 p2 : Int32} {s : zx_S} {v : Int32} (h : zX_ValueBench_aboutReached p1 p2 s = some v) : zx_MI zX_sd l D cz ad yX10_aboutReached cX10_aboutReached 3 .int 1 20 [.ref (ad 0), .int p1, .int p2] s v s := zx_metI hS hi (by decide +kernel) rfl (Nat.le_of_ble_eq_true rfl) (fun Z e1 e2 e3 e4 C hr => by subst e1 e2 e3 e4; exact zX_ValueBench_aboutReached_w C p1 p2 s hr h)
set_option maxRecDepth 100000 in
set_option maxHeartbeats 4000000 in
theorem zX_ValueBench_about_w {Z : zx_Z} (C : zx_ok zX_sd Z cX10_about 3 RX10 6 140) {r : Int32 × zx_S} (p1 p2 : Int32) (s : zx_S) (hr : zx_rI zX_sd Z cX10_about 3 .int r.1 r.2) (h : zX_ValueBench_about p1 p2 s = some r) : zW zX_sd Z 3 0 [(0, .ref (zz_d Z 0)), (1, .int p1), (2, .int p2)] [] s := by
  unfold zX_ValueBench_about at h
  refine zr_aload_n C dX10_about_0 (q := 1) rfl 0 rfl rfl ?_
  refine zr_get C dX10_about_1 (q := 4) zX_gX10_12_0 rfl ?_
  refine zr_iload_n C dX10_about_4 (q := 5) rfl 1 rfl rfl ?_
  obtain ⟨r1, hc_5, h⟩ := zx_b1_so h
  refine zr_cvI (q := 8) C (As := [.int p1]) (k := 1) (rest := []) dX10_about_5 (zX_Program_has_met C.2.2.2.2.1 C.2.2.2.1 hc_5) zX_vX10_79 zX_o1 ⟨by decide, by decide⟩ rfl (Nat.le_of_ble_eq_true rfl) rfl rfl ?_
  refine zr_if_ne (tgt := 13) (q := 11) C dX10_about_8 h (by decide) rfl (fun h => ?_) (fun h => ?_)
  · skip
    refine zr_aload_n C dX10_about_13 (q := 14) rfl 0 rfl rfl ?_
    obtain ⟨s2, hc_14, h⟩ := zx_b1_so h
    refine zr_cvV (q := 17) C (As := []) (k := 0) (rest := []) dX10_about_14 (zX_ValueBench_refresh_met C.2.2.2.2.1 C.2.2.2.1 hc_14) zX_vX10_104 zX_o0 ⟨by decide, by decide⟩ rfl (Nat.le_of_ble_eq_true rfl) rfl rfl ?_
    refine zr_iload_n C dX10_about_17 (q := 18) rfl 2 rfl rfl ?_
    by_cases e0 : p2 = (0 : Int32)
    · rw [if_pos e0] at h
      refine zr_lookup (tgt := 52) (off := 34) C dX10_about_18 (by decide) (by rw [e0] <;> exact rfl) (by decide) ?_
      refine zr_aload_n C dX10_about_52 (q := 53) rfl 0 rfl rfl ?_
      refine zr_get C dX10_about_53 (q := 56) zX_gX10_19_0 rfl ?_
      refine zr_iload_n C dX10_about_56 (q := 57) rfl 1 rfl rfl ?_
      obtain ⟨r6, hc_57, h⟩ := zx_b1_so h
      refine zr_cvI (q := 60) C (As := [.int p1]) (k := 11) (rest := []) dX10_about_57 (zX_Graph_reaches_met C.2.2.2.2.1 C.2.2.2.1 hc_57) zX_vX10_107 zX_o11 ⟨by decide, by decide⟩ rfl (Nat.le_of_ble_eq_true rfl) rfl rfl ?_
      refine zr_if_eq (tgt := 67) (q := 63) C dX10_about_60 h (by decide) rfl (fun h => ?_) (fun h => ?_)
      · skip
        refine zr_iconst C dX10_about_67 (q := 68) (v := (0 : Int32)) (by decide) rfl ?_
        exact zr_retI dX10_about_68 h hr
      · skip
        refine zr_iconst C dX10_about_63 (q := 64) (v := (1 : Int32)) (by decide) rfl ?_
        refine zr_goto (q := 68) C dX10_about_64 (by decide) ?_
        exact zr_retI dX10_about_68 h hr
    · rw [if_neg e0] at h
      by_cases e1 : p2 = (3 : Int32)
      · rw [if_pos e1] at h
        refine zr_lookup (tgt := 69) (off := 51) C dX10_about_18 (by decide) (by rw [e1] <;> exact rfl) (by decide) ?_
        refine zr_aload_n C dX10_about_69 (q := 70) rfl 0 rfl rfl ?_
        refine zr_get C dX10_about_70 (q := 73) zX_gX10_12_0 rfl ?_
        refine zr_get C dX10_about_73 (q := 76) zX_gX10_110_1 rfl ?_
        refine zr_iload_n C dX10_about_76 (q := 77) rfl 1 rfl rfl ?_
        refine zr_iconst C dX10_about_77 (q := 78) (v := (1 : Int32)) (by decide) rfl ?_
        refine zr_iadd C dX10_about_78 (q := 79) rfl ?_
        obtain ⟨hin_79, h⟩ := zx_ck_so h
        refine zr_iald C dX10_about_79 (q := 80) zX_a2 hin_79 rfl ?_
        refine zr_aload_n C dX10_about_80 (q := 81) rfl 0 rfl rfl ?_
        refine zr_get C dX10_about_81 (q := 84) zX_gX10_12_0 rfl ?_
        refine zr_get C dX10_about_84 (q := 87) zX_gX10_110_1 rfl ?_
        refine zr_iload_n C dX10_about_87 (q := 88) rfl 1 rfl rfl ?_
        obtain ⟨hin_88, h⟩ := zx_ck_so h
        refine zr_iald C dX10_about_88 (q := 89) zX_a2 hin_88 rfl ?_
        refine zr_isub C dX10_about_89 (q := 90) rfl ?_
        exact zr_retI dX10_about_90 h hr
      · rw [if_neg e1] at h
        by_cases e2 : p2 = (6 : Int32)
        · rw [if_pos e2] at h
          refine zr_lookup (tgt := 91) (off := 73) C dX10_about_18 (by decide) (by rw [e2] <;> exact rfl) (by decide) ?_
          refine zr_aload_n C dX10_about_91 (q := 92) rfl 0 rfl rfl ?_
          refine zr_get C dX10_about_92 (q := 95) zX_gX10_12_0 rfl ?_
          refine zr_iload_n C dX10_about_95 (q := 96) rfl 1 rfl rfl ?_
          obtain ⟨r5, hc_96, h⟩ := zx_b1_so h
          refine zr_cvI (q := 99) C (As := [.int p1]) (k := 1) (rest := []) dX10_about_96 (zX_Program_howCounts_met C.2.2.2.2.1 C.2.2.2.1 hc_96) zX_vX10_114 zX_o1 ⟨by decide, by decide⟩ rfl (Nat.le_of_ble_eq_true rfl) rfl rfl ?_
          exact zr_retI dX10_about_99 h hr
        · rw [if_neg e2] at h
          refine zr_lookup (tgt := 100) (off := 82) C dX10_about_18 (by decide) (by show Op.lookupswitch.offset [(0, 34), (3, 51), (6, 73)] _ _ = _; rw [lv_osw e0 (by decide), lv_osw e1 (by decide), lv_osw e2 (by decide)] <;> exact rfl) (by decide) ?_
          refine zr_aload_n C dX10_about_100 (q := 101) rfl 0 rfl rfl ?_
          refine zr_get C dX10_about_101 (q := 104) zX_gX10_19_0 rfl ?_
          refine zr_iload_n C dX10_about_104 (q := 105) rfl 1 rfl rfl ?_
          obtain ⟨r3, hc_105, h⟩ := zx_b1_so h
          refine zr_cvI (q := 108) C (As := [.int p1]) (k := 11) (rest := []) dX10_about_105 (zX_Graph_reaches_met C.2.2.2.2.1 C.2.2.2.1 hc_105) zX_vX10_107 zX_o11 ⟨by decide, by decide⟩ rfl (Nat.le_of_ble_eq_true rfl) rfl rfl ?_
          refine zr_if_eq (tgt := 120) (q := 111) C dX10_about_108 h (by decide) rfl (fun h => ?_) (fun h => ?_)
          · skip
            refine zr_iconst C dX10_about_120 (q := 121) (v := (-1 : Int32)) (by decide) rfl ?_
            exact zr_retI dX10_about_121 h hr
          · skip
            refine zr_aload_n C dX10_about_111 (q := 112) rfl 0 rfl rfl ?_
            refine zr_iload_n C dX10_about_112 (q := 113) rfl 1 rfl rfl ?_
            refine zr_iload_n C dX10_about_113 (q := 114) rfl 2 rfl rfl ?_
            obtain ⟨r4, hc_114, h⟩ := zx_b1_so h
            refine zr_cvI (q := 117) C (As := [.int p1, .int p2]) (k := 0) (rest := []) dX10_about_114 (zX_ValueBench_aboutReached_met C.2.2.2.2.1 C.2.2.2.1 hc_114) zX_vX10_118 zX_o0 ⟨by decide, by decide⟩ rfl (Nat.le_of_ble_eq_true rfl) rfl rfl ?_
            refine zr_goto (q := 121) C dX10_about_117 (by decide) ?_
            exact zr_retI dX10_about_121 h hr
  · skip
    refine zr_iconst C dX10_about_11 (q := 12) (v := (-1 : Int32)) (by decide) rfl ?_
    exact zr_retI dX10_about_12 h hr
theorem zX_ValueBench_about_met {l : Launch} {D : va_G} {cz : ClassId × ClassId} {ad : Nat → Nat} (hS : zx_So zX_sd) (hi : zx_I zX_sd ad) {p1 p2 : Int32} {s : zx_S} {v : Int32} {s1 : zx_S} (h : zX_ValueBench_about p1 p2 s = some (v, s1)) : zx_MI zX_sd l D cz ad yX10_about cX10_about 3 .int 6 140 [.ref (ad 0), .int p1, .int p2] s v s1 := zx_metI hS hi (by decide +kernel) rfl (Nat.le_of_ble_eq_true rfl) (fun Z e1 e2 e3 e4 C hr => by subst e1 e2 e3 e4; exact zX_ValueBench_about_w (r := (v, s1)) C p1 p2 s hr h)
set_option maxRecDepth 100000 in
set_option maxHeartbeats 4000000 in
theorem zX_ValueBench_predecessor_w {Z : zx_Z} (C : zx_ok zX_sd Z cX10_predecessor 3 RX10 6 140) {r : Int32 × zx_S} (p1 p2 : Int32) (s : zx_S) (hr : zx_rI zX_sd Z cX10_predecessor 3 .int r.1 r.2) (h : zX_ValueBench_predecessor p1 p2 s = some r) : zW zX_sd Z 3 0 [(0, .ref (zz_d Z 0)), (1, .int p1), (2, .int p2)] [] s := by
  unfold zX_ValueBench_predecessor at h
  refine zr_aload_n C dX10_predecessor_0 (q := 1) rfl 0 rfl rfl ?_
  obtain ⟨s1, hc_1, h⟩ := zx_b1_so h
  refine zr_cvV (q := 4) C (As := []) (k := 0) (rest := []) dX10_predecessor_1 (zX_ValueBench_refresh_met C.2.2.2.2.1 C.2.2.2.1 hc_1) zX_vX10_104 zX_o0 ⟨by decide, by decide⟩ rfl (Nat.le_of_ble_eq_true rfl) rfl rfl ?_
  refine zr_aload_n C dX10_predecessor_4 (q := 5) rfl 0 rfl rfl ?_
  refine zr_get C dX10_predecessor_5 (q := 8) zX_gX10_19_0 rfl ?_
  refine zr_iload_n C dX10_predecessor_8 (q := 9) rfl 1 rfl rfl ?_
  obtain ⟨r2, hc_9, h⟩ := zx_b1_so h
  refine zr_cvI (q := 12) C (As := [.int p1]) (k := 11) (rest := []) dX10_predecessor_9 (zX_Graph_reaches_met C.2.2.2.2.1 C.2.2.2.1 hc_9) zX_vX10_107 zX_o11 ⟨by decide, by decide⟩ rfl (Nat.le_of_ble_eq_true rfl) rfl rfl ?_
  refine zr_if_eq (tgt := 31) (q := 15) C dX10_predecessor_12 h (by decide) rfl (fun h => ?_) (fun h => ?_)
  · skip
    refine zr_iconst C dX10_predecessor_31 (q := 32) (v := (-1 : Int32)) (by decide) rfl ?_
    exact zr_retI dX10_predecessor_32 h hr
  · skip
    refine zr_aload_n C dX10_predecessor_15 (q := 16) rfl 0 rfl rfl ?_
    refine zr_get C dX10_predecessor_16 (q := 19) zX_gX10_19_0 rfl ?_
    refine zr_get C dX10_predecessor_19 (q := 22) zX_gX10_125_11 rfl ?_
    refine zr_iload_n C dX10_predecessor_22 (q := 23) rfl 1 rfl rfl ?_
    obtain ⟨hin_23, h⟩ := zx_ck_so h
    refine zr_iald C dX10_predecessor_23 (q := 24) zX_a13 hin_23 rfl ?_
    refine zr_iload_n C dX10_predecessor_24 (q := 25) rfl 2 rfl rfl ?_
    obtain ⟨r3, hc_25, h⟩ := zx_b1_so h
    refine zr_csI (q := 28) C (As := [.int (s1 13 (p1).toNatClampNeg), .int p2]) (rest := []) dX10_predecessor_25 (zX_Graph_nthOf_met C.2.2.2.2.1 C.2.2.2.1 hc_25) zX_sX10_139 ⟨by decide, by decide⟩ rfl (Nat.le_of_ble_eq_true rfl) rfl rfl ?_
    refine zr_goto (q := 32) C dX10_predecessor_28 (by decide) ?_
    exact zr_retI dX10_predecessor_32 h hr
theorem zX_ValueBench_predecessor_met {l : Launch} {D : va_G} {cz : ClassId × ClassId} {ad : Nat → Nat} (hS : zx_So zX_sd) (hi : zx_I zX_sd ad) {p1 p2 : Int32} {s : zx_S} {v : Int32} {s1 : zx_S} (h : zX_ValueBench_predecessor p1 p2 s = some (v, s1)) : zx_MI zX_sd l D cz ad yX10_predecessor cX10_predecessor 3 .int 6 140 [.ref (ad 0), .int p1, .int p2] s v s1 := zx_metI hS hi (by decide +kernel) rfl (Nat.le_of_ble_eq_true rfl) (fun Z e1 e2 e3 e4 C hr => by subst e1 e2 e3 e4; exact zX_ValueBench_predecessor_w (r := (v, s1)) C p1 p2 s hr h)
set_option maxRecDepth 100000 in
set_option maxHeartbeats 4000000 in
theorem zX_ValueBench_dominates_w {Z : zx_Z} (C : zx_ok zX_sd Z cX10_dominates 3 RX10 6 140) {r : Int32 × zx_S} (p1 p2 : Int32) (s : zx_S) (hr : zx_rI zX_sd Z cX10_dominates 3 .int r.1 r.2) (h : zX_ValueBench_dominates p1 p2 s = some r) : zW zX_sd Z 3 0 [(0, .ref (zz_d Z 0)), (1, .int p1), (2, .int p2)] [] s := by
  unfold zX_ValueBench_dominates at h
  refine zr_aload_n C dX10_dominates_0 (q := 1) rfl 0 rfl rfl ?_
  obtain ⟨s1, hc_1, h⟩ := zx_b1_so h
  refine zr_cvV (q := 4) C (As := []) (k := 0) (rest := []) dX10_dominates_1 (zX_ValueBench_refresh_met C.2.2.2.2.1 C.2.2.2.1 hc_1) zX_vX10_104 zX_o0 ⟨by decide, by decide⟩ rfl (Nat.le_of_ble_eq_true rfl) rfl rfl ?_
  refine zr_aload_n C dX10_dominates_4 (q := 5) rfl 0 rfl rfl ?_
  refine zr_get C dX10_dominates_5 (q := 8) zX_gX10_19_0 rfl ?_
  refine zr_iload_n C dX10_dominates_8 (q := 9) rfl 1 rfl rfl ?_
  obtain ⟨r2, hc_9, h⟩ := zx_b1_so h
  refine zr_cvI (q := 12) C (As := [.int p1]) (k := 11) (rest := []) dX10_dominates_9 (zX_Graph_reaches_met C.2.2.2.2.1 C.2.2.2.1 hc_9) zX_vX10_107 zX_o11 ⟨by decide, by decide⟩ rfl (Nat.le_of_ble_eq_true rfl) rfl rfl ?_
  refine zr_if_eq (tgt := 26) (q := 15) C dX10_dominates_12 h (by decide) rfl (fun h => ?_) (fun h => ?_)
  · skip
    refine zr_iconst C dX10_dominates_26 (q := 27) (v := (-1 : Int32)) (by decide) rfl ?_
    exact zr_retI dX10_dominates_27 h hr
  · skip
    refine zr_aload_n C dX10_dominates_15 (q := 16) rfl 0 rfl rfl ?_
    refine zr_get C dX10_dominates_16 (q := 19) zX_gX10_19_0 rfl ?_
    refine zr_iload_n C dX10_dominates_19 (q := 20) rfl 2 rfl rfl ?_
    obtain ⟨r3, hc_20, h⟩ := zx_b1_so h
    refine zr_cvI (q := 23) C (As := [.int p2]) (k := 11) (rest := []) dX10_dominates_20 (zX_Graph_reaches_met C.2.2.2.2.1 C.2.2.2.1 hc_20) zX_vX10_107 zX_o11 ⟨by decide, by decide⟩ rfl (Nat.le_of_ble_eq_true rfl) rfl rfl ?_
    refine zr_if_ne (tgt := 28) (q := 26) C dX10_dominates_23 h (by decide) rfl (fun h => ?_) (fun h => ?_)
    · skip
      refine zr_aload_n C dX10_dominates_28 (q := 29) rfl 0 rfl rfl ?_
      refine zr_get C dX10_dominates_29 (q := 32) zX_gX10_19_0 rfl ?_
      refine zr_get C dX10_dominates_32 (q := 35) zX_gX10_142_11 rfl ?_
      refine zr_iload_n C dX10_dominates_35 (q := 36) rfl 1 rfl rfl ?_
      obtain ⟨hin_36, h⟩ := zx_ck_so h
      refine zr_iald C dX10_dominates_36 (q := 37) zX_a14 hin_36 rfl ?_
      refine zr_iload_n C dX10_dominates_37 (q := 38) rfl 2 rfl rfl ?_
      obtain ⟨r4, hc_38, h⟩ := zx_b1_so h
      refine zr_csI (q := 41) C (As := [.int (s1 14 (p1).toNatClampNeg), .int p2]) (rest := []) dX10_dominates_38 (zX_Graph_isIn_met C.2.2.2.2.1 C.2.2.2.1 hc_38) zX_sX10_145 ⟨by decide, by decide⟩ rfl (Nat.le_of_ble_eq_true rfl) rfl rfl ?_
      refine zr_if_eq (tgt := 48) (q := 44) C dX10_dominates_41 h (by decide) rfl (fun h => ?_) (fun h => ?_)
      · skip
        refine zr_iconst C dX10_dominates_48 (q := 49) (v := (0 : Int32)) (by decide) rfl ?_
        exact zr_retI dX10_dominates_49 h hr
      · skip
        refine zr_iconst C dX10_dominates_44 (q := 45) (v := (1 : Int32)) (by decide) rfl ?_
        refine zr_goto (q := 49) C dX10_dominates_45 (by decide) ?_
        exact zr_retI dX10_dominates_49 h hr
    · skip
      refine zr_iconst C dX10_dominates_26 (q := 27) (v := (-1 : Int32)) (by decide) rfl ?_
      exact zr_retI dX10_dominates_27 h hr
theorem zX_ValueBench_dominates_met {l : Launch} {D : va_G} {cz : ClassId × ClassId} {ad : Nat → Nat} (hS : zx_So zX_sd) (hi : zx_I zX_sd ad) {p1 p2 : Int32} {s : zx_S} {v : Int32} {s1 : zx_S} (h : zX_ValueBench_dominates p1 p2 s = some (v, s1)) : zx_MI zX_sd l D cz ad yX10_dominates cX10_dominates 3 .int 6 140 [.ref (ad 0), .int p1, .int p2] s v s1 := zx_metI hS hi (by decide +kernel) rfl (Nat.le_of_ble_eq_true rfl) (fun Z e1 e2 e3 e4 C hr => by subst e1 e2 e3 e4; exact zX_ValueBench_dominates_w (r := (v, s1)) C p1 p2 s hr h)
set_option maxRecDepth 100000 in
set_option maxHeartbeats 4000000 in
theorem zX_ValueBench_meets_w {Z : zx_Z} (C : zx_ok zX_sd Z cX10_meets 3 RX10 6 140) {r : Int32 × zx_S} (p1 p2 : Int32) (s : zx_S) (hr : zx_rI zX_sd Z cX10_meets 3 .int r.1 r.2) (h : zX_ValueBench_meets p1 p2 s = some r) : zW zX_sd Z 3 0 [(0, .ref (zz_d Z 0)), (1, .int p1), (2, .int p2)] [] s := by
  unfold zX_ValueBench_meets at h
  refine zr_aload_n C dX10_meets_0 (q := 1) rfl 0 rfl rfl ?_
  obtain ⟨s1, hc_1, h⟩ := zx_b1_so h
  refine zr_cvV (q := 4) C (As := []) (k := 0) (rest := []) dX10_meets_1 (zX_ValueBench_refresh_met C.2.2.2.2.1 C.2.2.2.1 hc_1) zX_vX10_104 zX_o0 ⟨by decide, by decide⟩ rfl (Nat.le_of_ble_eq_true rfl) rfl rfl ?_
  refine zr_aload_n C dX10_meets_4 (q := 5) rfl 0 rfl rfl ?_
  refine zr_get C dX10_meets_5 (q := 8) zX_gX10_19_0 rfl ?_
  refine zr_iload_n C dX10_meets_8 (q := 9) rfl 1 rfl rfl ?_
  obtain ⟨r2, hc_9, h⟩ := zx_b1_so h
  refine zr_cvI (q := 12) C (As := [.int p1]) (k := 11) (rest := []) dX10_meets_9 (zX_Graph_reaches_met C.2.2.2.2.1 C.2.2.2.1 hc_9) zX_vX10_107 zX_o11 ⟨by decide, by decide⟩ rfl (Nat.le_of_ble_eq_true rfl) rfl rfl ?_
  refine zr_if_eq (tgt := 26) (q := 15) C dX10_meets_12 h (by decide) rfl (fun h => ?_) (fun h => ?_)
  · skip
    refine zr_iconst C dX10_meets_26 (q := 27) (v := (-1 : Int32)) (by decide) rfl ?_
    exact zr_retI dX10_meets_27 h hr
  · skip
    refine zr_aload_n C dX10_meets_15 (q := 16) rfl 0 rfl rfl ?_
    refine zr_get C dX10_meets_16 (q := 19) zX_gX10_19_0 rfl ?_
    refine zr_iload_n C dX10_meets_19 (q := 20) rfl 2 rfl rfl ?_
    obtain ⟨r3, hc_20, h⟩ := zx_b1_so h
    refine zr_cvI (q := 23) C (As := [.int p2]) (k := 11) (rest := []) dX10_meets_20 (zX_Graph_reaches_met C.2.2.2.2.1 C.2.2.2.1 hc_20) zX_vX10_107 zX_o11 ⟨by decide, by decide⟩ rfl (Nat.le_of_ble_eq_true rfl) rfl rfl ?_
    refine zr_if_ne (tgt := 28) (q := 26) C dX10_meets_23 h (by decide) rfl (fun h => ?_) (fun h => ?_)
    · skip
      refine zr_aload_n C dX10_meets_28 (q := 29) rfl 0 rfl rfl ?_
      refine zr_get C dX10_meets_29 (q := 32) zX_gX10_19_0 rfl ?_
      refine zr_get C dX10_meets_32 (q := 35) zX_gX10_136_11 rfl ?_
      refine zr_iload_n C dX10_meets_35 (q := 36) rfl 1 rfl rfl ?_
      obtain ⟨hin_36, h⟩ := zx_ck_so h
      refine zr_iald C dX10_meets_36 (q := 37) zX_a17 hin_36 rfl ?_
      refine zr_iload_n C dX10_meets_37 (q := 38) rfl 2 rfl rfl ?_
      obtain ⟨r4, hc_38, h⟩ := zx_b1_so h
      refine zr_csI (q := 41) C (As := [.int (s1 17 (p1).toNatClampNeg), .int p2]) (rest := []) dX10_meets_38 (zX_Graph_isIn_met C.2.2.2.2.1 C.2.2.2.1 hc_38) zX_sX10_145 ⟨by decide, by decide⟩ rfl (Nat.le_of_ble_eq_true rfl) rfl rfl ?_
      refine zr_if_eq (tgt := 48) (q := 44) C dX10_meets_41 h (by decide) rfl (fun h => ?_) (fun h => ?_)
      · skip
        refine zr_iconst C dX10_meets_48 (q := 49) (v := (0 : Int32)) (by decide) rfl ?_
        exact zr_retI dX10_meets_49 h hr
      · skip
        refine zr_iconst C dX10_meets_44 (q := 45) (v := (1 : Int32)) (by decide) rfl ?_
        refine zr_goto (q := 49) C dX10_meets_45 (by decide) ?_
        exact zr_retI dX10_meets_49 h hr
    · skip
      refine zr_iconst C dX10_meets_26 (q := 27) (v := (-1 : Int32)) (by decide) rfl ?_
      exact zr_retI dX10_meets_27 h hr
theorem zX_ValueBench_meets_met {l : Launch} {D : va_G} {cz : ClassId × ClassId} {ad : Nat → Nat} (hS : zx_So zX_sd) (hi : zx_I zX_sd ad) {p1 p2 : Int32} {s : zx_S} {v : Int32} {s1 : zx_S} (h : zX_ValueBench_meets p1 p2 s = some (v, s1)) : zx_MI zX_sd l D cz ad yX10_meets cX10_meets 3 .int 6 140 [.ref (ad 0), .int p1, .int p2] s v s1 := zx_metI hS hi (by decide +kernel) rfl (Nat.le_of_ble_eq_true rfl) (fun Z e1 e2 e3 e4 C hr => by subst e1 e2 e3 e4; exact zX_ValueBench_meets_w (r := (v, s1)) C p1 p2 s hr h)
set_option maxRecDepth 100000 in
set_option maxHeartbeats 4000000 in
theorem zX_Values_has_w {Z : zx_Z} (C : zx_ok zX_sd Z cX9_has 2 RX9 0 0) {r : Int32} (p1 : Int32) (s : zx_S) (hr : zx_rI zX_sd Z cX9_has 2 .boolean r s) (h : zX_Values_has p1 s = some r) : zW zX_sd Z 2 0 [(0, .ref (zz_d Z 18)), (1, .int p1)] [] s := by
  unfold zX_Values_has at h
  refine zr_iload_n C dX9_has_0 (q := 1) rfl 1 rfl rfl ?_
  refine zr_if_lt (tgt := 16) (q := 4) C dX9_has_1 h (by decide) rfl (fun h => ?_) (fun h => ?_)
  · skip
    refine zr_iconst C dX9_has_16 (q := 17) (v := (0 : Int32)) (by decide) rfl ?_
    exact zr_retZR dX9_has_17 (Or.inl rfl) h hr
  · skip
    refine zr_iload_n C dX9_has_4 (q := 5) rfl 1 rfl rfl ?_
    refine zr_aload_n C dX9_has_5 (q := 6) rfl 0 rfl rfl ?_
    refine zr_get C dX9_has_6 (q := 9) zX_gX9_49_18 rfl ?_
    refine zr_icmp_ge (tgt := 16) (q := 12) C dX9_has_9 h (by decide) rfl (fun h => ?_) (fun h => ?_)
    · skip
      refine zr_iconst C dX9_has_16 (q := 17) (v := (0 : Int32)) (by decide) rfl ?_
      exact zr_retZR dX9_has_17 (Or.inl rfl) h hr
    · skip
      refine zr_iconst C dX9_has_12 (q := 13) (v := (1 : Int32)) (by decide) rfl ?_
      refine zr_goto (q := 17) C dX9_has_13 (by decide) ?_
      exact zr_retZR dX9_has_17 (Or.inr rfl) h hr
theorem zX_Values_has_met {l : Launch} {D : va_G} {cz : ClassId × ClassId} {ad : Nat → Nat} (hS : zx_So zX_sd) (hi : zx_I zX_sd ad) {p1 : Int32} {s : zx_S} {v : Int32} (h : zX_Values_has p1 s = some v) : zx_MI zX_sd l D cz ad yX9_has cX9_has 2 .boolean 0 0 [.ref (ad 18), .int p1] s v s := zx_metI hS hi (by decide +kernel) rfl (Nat.le_of_ble_eq_true rfl) (fun Z e1 e2 e3 e4 C hr => by subst e1 e2 e3 e4; exact zX_Values_has_w C p1 s hr h)
set_option maxRecDepth 100000 in
set_option maxHeartbeats 4000000 in
theorem zX_ValueBench_value_w {Z : zx_Z} (C : zx_ok zX_sd Z cX10_value 3 RX10 6 140) {r : Int32 × zx_S} (p1 p2 : Int32) (s : zx_S) (hr : zx_rI zX_sd Z cX10_value 3 .int r.1 r.2) (h : zX_ValueBench_value p1 p2 s = some r) : zW zX_sd Z 3 0 [(0, .ref (zz_d Z 0)), (1, .int p1), (2, .int p2)] [] s := by
  unfold zX_ValueBench_value at h
  refine zr_aload_n C dX10_value_0 (q := 1) rfl 0 rfl rfl ?_
  obtain ⟨s1, hc_1, h⟩ := zx_b1_so h
  refine zr_cvV (q := 4) C (As := []) (k := 0) (rest := []) dX10_value_1 (zX_ValueBench_refresh_met C.2.2.2.2.1 C.2.2.2.1 hc_1) zX_vX10_104 zX_o0 ⟨by decide, by decide⟩ rfl (Nat.le_of_ble_eq_true rfl) rfl rfl ?_
  refine zr_aload_n C dX10_value_4 (q := 5) rfl 0 rfl rfl ?_
  refine zr_get C dX10_value_5 (q := 8) zX_gX10_26_0 rfl ?_
  refine zr_iload_n C dX10_value_8 (q := 9) rfl 1 rfl rfl ?_
  obtain ⟨r2, hc_9, h⟩ := zx_b1_so h
  refine zr_cvI (q := 12) C (As := [.int p1]) (k := 18) (rest := []) dX10_value_9 (zX_Values_has_met C.2.2.2.2.1 C.2.2.2.1 hc_9) zX_vX10_149 zX_o18 ⟨by decide, by decide⟩ rfl (Nat.le_of_ble_eq_true rfl) rfl rfl ?_
  refine zr_if_ne (tgt := 17) (q := 15) C dX10_value_12 h (by decide) rfl (fun h => ?_) (fun h => ?_)
  · skip
    refine zr_iload_n C dX10_value_17 (q := 18) rfl 2 rfl rfl ?_
    by_cases e0 : p2 = (0 : Int32)
    · rw [if_pos e0] at h
      refine zr_tableIn (tgt := 60) (off := 42) C dX10_value_18 (by rw [e0]; decide) (by rw [e0]; decide) (by rw [e0] <;> exact rfl) (by decide) ?_
      refine zr_aload_n C dX10_value_60 (q := 61) rfl 0 rfl rfl ?_
      refine zr_get C dX10_value_61 (q := 64) zX_gX10_26_0 rfl ?_
      refine zr_get C dX10_value_64 (q := 67) zX_gX10_150_18 rfl ?_
      refine zr_iload_n C dX10_value_67 (q := 68) rfl 1 rfl rfl ?_
      obtain ⟨hin_68, h⟩ := zx_ck_so h
      refine zr_iald C dX10_value_68 (q := 69) zX_a19 hin_68 rfl ?_
      exact zr_retI dX10_value_69 h hr
    · rw [if_neg e0] at h
      by_cases e1 : p2 = (1 : Int32)
      · rw [if_pos e1] at h
        refine zr_tableIn (tgt := 70) (off := 52) C dX10_value_18 (by rw [e1]; decide) (by rw [e1]; decide) (by rw [e1] <;> exact rfl) (by decide) ?_
        refine zr_aload_n C dX10_value_70 (q := 71) rfl 0 rfl rfl ?_
        refine zr_get C dX10_value_71 (q := 74) zX_gX10_26_0 rfl ?_
        refine zr_get C dX10_value_74 (q := 77) zX_gX10_153_18 rfl ?_
        refine zr_iload_n C dX10_value_77 (q := 78) rfl 1 rfl rfl ?_
        obtain ⟨hin_78, h⟩ := zx_ck_so h
        refine zr_iald C dX10_value_78 (q := 79) zX_a20 hin_78 rfl ?_
        exact zr_retI dX10_value_79 h hr
      · rw [if_neg e1] at h
        by_cases e2 : p2 = (2 : Int32)
        · rw [if_pos e2] at h
          refine zr_tableIn (tgt := 80) (off := 62) C dX10_value_18 (by rw [e2]; decide) (by rw [e2]; decide) (by rw [e2] <;> exact rfl) (by decide) ?_
          refine zr_aload_n C dX10_value_80 (q := 81) rfl 0 rfl rfl ?_
          refine zr_get C dX10_value_81 (q := 84) zX_gX10_26_0 rfl ?_
          refine zr_get C dX10_value_84 (q := 87) zX_gX10_156_18 rfl ?_
          refine zr_iload_n C dX10_value_87 (q := 88) rfl 1 rfl rfl ?_
          obtain ⟨hin_88, h⟩ := zx_ck_so h
          refine zr_iald C dX10_value_88 (q := 89) zX_a21 hin_88 rfl ?_
          exact zr_retI dX10_value_89 h hr
        · rw [if_neg e2] at h
          by_cases e3 : p2 = (3 : Int32)
          · rw [if_pos e3] at h
            refine zr_tableIn (tgt := 90) (off := 72) C dX10_value_18 (by rw [e3]; decide) (by rw [e3]; decide) (by rw [e3] <;> exact rfl) (by decide) ?_
            refine zr_aload_n C dX10_value_90 (q := 91) rfl 0 rfl rfl ?_
            refine zr_get C dX10_value_91 (q := 94) zX_gX10_33_0 rfl ?_
            refine zr_get C dX10_value_94 (q := 97) zX_gX10_159_33 rfl ?_
            refine zr_iload_n C dX10_value_97 (q := 98) rfl 1 rfl rfl ?_
            obtain ⟨hin_98, h⟩ := zx_ck_so h
            refine zr_iald C dX10_value_98 (q := 99) zX_a34 hin_98 rfl ?_
            exact zr_retI dX10_value_99 h hr
          · rw [if_neg e3] at h
            by_cases e4 : p2 = (4 : Int32)
            · rw [if_pos e4] at h
              refine zr_tableIn (tgt := 100) (off := 82) C dX10_value_18 (by rw [e4]; decide) (by rw [e4]; decide) (by rw [e4] <;> exact rfl) (by decide) ?_
              refine zr_aload_n C dX10_value_100 (q := 101) rfl 0 rfl rfl ?_
              refine zr_get C dX10_value_101 (q := 104) zX_gX10_40_0 rfl ?_
              refine zr_get C dX10_value_104 (q := 107) zX_gX10_162_36 rfl ?_
              refine zr_iload_n C dX10_value_107 (q := 108) rfl 1 rfl rfl ?_
              obtain ⟨hin_108, h⟩ := zx_ck_so h
              refine zr_zald C dX10_value_108 (q := 109) zX_a37 hin_108 rfl ?_
              refine zr_if_eq (tgt := 116) (q := 112) C dX10_value_109 h (by decide) rfl (fun h => ?_) (fun h => ?_)
              · skip
                refine zr_iconst C dX10_value_116 (q := 117) (v := (0 : Int32)) (by decide) rfl ?_
                exact zr_retI dX10_value_117 h hr
              · skip
                refine zr_iconst C dX10_value_112 (q := 113) (v := (1 : Int32)) (by decide) rfl ?_
                refine zr_goto (q := 117) C dX10_value_113 (by decide) ?_
                exact zr_retI dX10_value_117 h hr
            · rw [if_neg e4] at h
              by_cases e5 : p2 = (5 : Int32)
              · rw [if_pos e5] at h
                refine zr_tableIn (tgt := 118) (off := 100) C dX10_value_18 (by rw [e5]; decide) (by rw [e5]; decide) (by rw [e5] <;> exact rfl) (by decide) ?_
                refine zr_aload_n C dX10_value_118 (q := 119) rfl 0 rfl rfl ?_
                refine zr_get C dX10_value_119 (q := 122) zX_gX10_26_0 rfl ?_
                refine zr_iload_n C dX10_value_122 (q := 123) rfl 1 rfl rfl ?_
                obtain ⟨r3, hc_123, h⟩ := zx_b1_so h
                refine zr_cvI (q := 126) C (As := [.int p1]) (k := 18) (rest := []) dX10_value_123 (zX_Values_operandsOf_met C.2.2.2.2.1 C.2.2.2.1 hc_123) zX_vX10_166 zX_o18 ⟨by decide, by decide⟩ rfl (Nat.le_of_ble_eq_true rfl) rfl rfl ?_
                exact zr_retI dX10_value_126 h hr
              · rw [if_neg e5] at h
                by_cases e6 : p2 = (6 : Int32)
                · rw [if_pos e6] at h
                  refine zr_tableIn (tgt := 127) (off := 109) C dX10_value_18 (by rw [e6]; decide) (by rw [e6]; decide) (by rw [e6] <;> exact rfl) (by decide) ?_
                  refine zr_aload_n C dX10_value_127 (q := 128) rfl 0 rfl rfl ?_
                  refine zr_get C dX10_value_128 (q := 131) zX_gX10_26_0 rfl ?_
                  refine zr_get C dX10_value_131 (q := 134) zX_gX10_169_18 rfl ?_
                  refine zr_iload_n C dX10_value_134 (q := 135) rfl 1 rfl rfl ?_
                  obtain ⟨hin_135, h⟩ := zx_ck_so h
                  refine zr_iald C dX10_value_135 (q := 136) zX_a22 hin_135 rfl ?_
                  exact zr_retI dX10_value_136 h hr
                · rw [if_neg e6] at h
                  refine zr_tableOut (tgt := 137) C dX10_value_18 (by have f0 := lv_neT (a := 0) e0 (by decide); have f1 := lv_neT (a := 1) e1 (by decide); have f2 := lv_neT (a := 2) e2 (by decide); have f3 := lv_neT (a := 3) e3 (by decide); have f4 := lv_neT (a := 4) e4 (by decide); have f5 := lv_neT (a := 5) e5 (by decide); have f6 := lv_neT (a := 6) e6 (by decide); omega) (by decide) ?_
                  refine zr_iconst C dX10_value_137 (q := 138) (v := (-1 : Int32)) (by decide) rfl ?_
                  exact zr_retI dX10_value_138 h hr
  · skip
    refine zr_iconst C dX10_value_15 (q := 16) (v := (-1 : Int32)) (by decide) rfl ?_
    exact zr_retI dX10_value_16 h hr
theorem zX_ValueBench_value_met {l : Launch} {D : va_G} {cz : ClassId × ClassId} {ad : Nat → Nat} (hS : zx_So zX_sd) (hi : zx_I zX_sd ad) {p1 p2 : Int32} {s : zx_S} {v : Int32} {s1 : zx_S} (h : zX_ValueBench_value p1 p2 s = some (v, s1)) : zx_MI zX_sd l D cz ad yX10_value cX10_value 3 .int 6 140 [.ref (ad 0), .int p1, .int p2] s v s1 := zx_metI hS hi (by decide +kernel) rfl (Nat.le_of_ble_eq_true rfl) (fun Z e1 e2 e3 e4 C hr => by subst e1 e2 e3 e4; exact zX_ValueBench_value_w (r := (v, s1)) C p1 p2 s hr h)
set_option maxRecDepth 100000 in
set_option maxHeartbeats 4000000 in
theorem zX_Values_hasOperand_w {Z : zx_Z} (C : zx_ok zX_sd Z cX9_hasOperand 3 RX9 1 21) {r : Int32} (p1 p2 : Int32) (s : zx_S) (hr : zx_rI zX_sd Z cX9_hasOperand 3 .boolean r s) (h : zX_Values_hasOperand p1 p2 s = some r) : zW zX_sd Z 3 0 [(0, .ref (zz_d Z 18)), (1, .int p1), (2, .int p2)] [] s := by
  unfold zX_Values_hasOperand at h
  refine zr_aload_n C dX9_hasOperand_0 (q := 1) rfl 0 rfl rfl ?_
  refine zr_iload_n C dX9_hasOperand_1 (q := 2) rfl 1 rfl rfl ?_
  obtain ⟨r1, hc_2, h⟩ := zx_b1_so h
  refine zr_cvI (q := 5) C (As := [.int p1]) (k := 18) (rest := []) dX9_hasOperand_2 (zX_Values_has_met C.2.2.2.2.1 C.2.2.2.1 hc_2) zX_vX9_53 zX_o18 ⟨by decide, by decide⟩ rfl (Nat.le_of_ble_eq_true rfl) rfl rfl ?_
  refine zr_if_eq (tgt := 25) (q := 8) C dX9_hasOperand_5 h (by decide) rfl (fun h => ?_) (fun h => ?_)
  · skip
    refine zr_iconst C dX9_hasOperand_25 (q := 26) (v := (0 : Int32)) (by decide) rfl ?_
    exact zr_retZR dX9_hasOperand_26 (Or.inl rfl) h hr
  · skip
    refine zr_iload_n C dX9_hasOperand_8 (q := 9) rfl 2 rfl rfl ?_
    refine zr_if_lt (tgt := 25) (q := 12) C dX9_hasOperand_9 h (by decide) rfl (fun h => ?_) (fun h => ?_)
    · skip
      refine zr_iconst C dX9_hasOperand_25 (q := 26) (v := (0 : Int32)) (by decide) rfl ?_
      exact zr_retZR dX9_hasOperand_26 (Or.inl rfl) h hr
    · skip
      refine zr_iload_n C dX9_hasOperand_12 (q := 13) rfl 2 rfl rfl ?_
      refine zr_aload_n C dX9_hasOperand_13 (q := 14) rfl 0 rfl rfl ?_
      refine zr_iload_n C dX9_hasOperand_14 (q := 15) rfl 1 rfl rfl ?_
      obtain ⟨r2, hc_15, h⟩ := zx_b1_so h
      refine zr_cvI (q := 18) C (As := [.int p1]) (k := 18) (rest := [.int p2]) dX9_hasOperand_15 (zX_Values_operandsOf_met C.2.2.2.2.1 C.2.2.2.1 hc_15) zX_vX9_57 zX_o18 ⟨by decide, by decide⟩ rfl (Nat.le_of_ble_eq_true rfl) rfl rfl ?_
      refine zr_icmp_ge (tgt := 25) (q := 21) C dX9_hasOperand_18 h (by decide) rfl (fun h => ?_) (fun h => ?_)
      · skip
        refine zr_iconst C dX9_hasOperand_25 (q := 26) (v := (0 : Int32)) (by decide) rfl ?_
        exact zr_retZR dX9_hasOperand_26 (Or.inl rfl) h hr
      · skip
        refine zr_iconst C dX9_hasOperand_21 (q := 22) (v := (1 : Int32)) (by decide) rfl ?_
        refine zr_goto (q := 26) C dX9_hasOperand_22 (by decide) ?_
        exact zr_retZR dX9_hasOperand_26 (Or.inr rfl) h hr
theorem zX_Values_hasOperand_met {l : Launch} {D : va_G} {cz : ClassId × ClassId} {ad : Nat → Nat} (hS : zx_So zX_sd) (hi : zx_I zX_sd ad) {p1 p2 : Int32} {s : zx_S} {v : Int32} (h : zX_Values_hasOperand p1 p2 s = some v) : zx_MI zX_sd l D cz ad yX9_hasOperand cX9_hasOperand 3 .boolean 1 21 [.ref (ad 18), .int p1, .int p2] s v s := zx_metI hS hi (by decide +kernel) rfl (Nat.le_of_ble_eq_true rfl) (fun Z e1 e2 e3 e4 C hr => by subst e1 e2 e3 e4; exact zX_Values_hasOperand_w C p1 p2 s hr h)
