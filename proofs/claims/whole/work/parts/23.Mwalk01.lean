set_option maxRecDepth 100000 in
set_option maxHeartbeats 4000000 in
theorem zM_ValueBenchModel_ends_w {Z : zx_Z} (C : zx_ok zM_sd Z cX11_ends 6 RX11 1 21) {r : Int32 × zx_S} (p1 p2 p3 p4 p5 : Int32) (s : zx_S) (hr : zx_rI zM_sd Z cX11_ends 6 .boolean r.1 r.2) (h : zM_ValueBenchModel_ends p1 p2 p3 p4 p5 s = some r) : zW zM_sd Z 6 0 [(0, .ref (zz_d Z 0)), (1, .int p1), (2, .int p2), (3, .int p3), (4, .int p4), (5, .int p5)] [] s := by
  unfold zM_ValueBenchModel_ends at h
  refine zr_aload_n C dX11_ends_0 (q := 1) rfl 0 rfl rfl ?_
  refine zr_iload_n C dX11_ends_1 (q := 2) rfl 1 rfl rfl ?_
  obtain ⟨r1, hc_2, h⟩ := zx_b1_so h
  refine zr_cvI (q := 5) C (As := [.int p1]) (k := 0) (rest := []) dX11_ends_2 (zM_ValueBenchModel_isBlock_met C.2.2.2.2.1 C.2.2.2.1 hc_2) zM_vX11_127 zM_o0 ⟨by decide, by decide⟩ rfl (Nat.le_of_ble_eq_true rfl) rfl rfl ?_
  refine zr_if_eq (tgt := 62) (q := 8) C dX11_ends_5 h (by decide) rfl (fun h => ?_) (fun h => ?_)
  · skip
    refine zr_iconst C dX11_ends_62 (q := 63) (v := (0 : Int32)) (by decide) rfl ?_
    exact zr_retZI dX11_ends_63 (Or.inl rfl) h hr
  · skip
    refine zr_iload_n C dX11_ends_8 (q := 9) rfl 2 rfl rfl ?_
    refine zr_if_lt (tgt := 62) (q := 12) C dX11_ends_9 h (by decide) rfl (fun h => ?_) (fun h => ?_)
    · skip
      refine zr_iconst C dX11_ends_62 (q := 63) (v := (0 : Int32)) (by decide) rfl ?_
      exact zr_retZI dX11_ends_63 (Or.inl rfl) h hr
    · skip
      refine zr_iload_n C dX11_ends_12 (q := 13) rfl 2 rfl rfl ?_
      refine zr_iconst C dX11_ends_13 (q := 14) (v := (2 : Int32)) (by decide) rfl ?_
      refine zr_icmp_gt (tgt := 62) (q := 17) C dX11_ends_14 h (by decide) rfl (fun h => ?_) (fun h => ?_)
      · skip
        refine zr_iconst C dX11_ends_62 (q := 63) (v := (0 : Int32)) (by decide) rfl ?_
        exact zr_retZI dX11_ends_63 (Or.inl rfl) h hr
      · skip
        refine zr_iload_n C dX11_ends_17 (q := 18) rfl 2 rfl rfl ?_
        refine zr_iconst C dX11_ends_18 (q := 19) (v := (1 : Int32)) (by decide) rfl ?_
        refine zr_icmp_eq (tgt := 29) (q := 22) C dX11_ends_19 h (by decide) rfl (fun h => ?_) (fun h => ?_)
        · skip
          refine zr_iload_n C dX11_ends_29 (q := 30) rfl 2 rfl rfl ?_
          refine zr_if_le (tgt := 45) (q := 33) C dX11_ends_30 h (by decide) rfl (fun h => ?_) (fun h => ?_)
          · skip
            refine zr_iload_n C dX11_ends_45 (q := 46) rfl 2 rfl rfl ?_
            refine zr_iconst C dX11_ends_46 (q := 47) (v := (2 : Int32)) (by decide) rfl ?_
            refine zr_icmp_ne (tgt := 64) (q := 50) C dX11_ends_47 h (by decide) rfl (fun h => ?_) (fun h => ?_)
            · skip
              refine zr_aload_n C dX11_ends_64 (q := 65) rfl 0 rfl rfl ?_
              refine zr_get C dX11_ends_65 (q := 68) zM_gX11_25_0 rfl ?_
              refine zr_iload_n C dX11_ends_68 (q := 69) rfl 1 rfl rfl ?_
              refine zr_iload_n C dX11_ends_69 (q := 70) rfl 2 rfl rfl ?_
              obtain ⟨hin_70, h⟩ := zx_ck_so h
              refine zr_iast C dX11_ends_70 (q := 71) zM_a6 hin_70 rfl ?_
              refine zr_ls h (fun s38 h => ?_)
              refine zr_aload_n C dX11_ends_71 (q := 72) rfl 0 rfl rfl ?_
              refine zr_get C dX11_ends_72 (q := 75) zM_gX11_28_0 rfl ?_
              refine zr_iload_n C dX11_ends_75 (q := 76) rfl 1 rfl rfl ?_
              refine zr_iload_n C dX11_ends_76 (q := 77) rfl 3 rfl rfl ?_
              obtain ⟨hin_77, h⟩ := zx_ck_so h
              refine zr_iast C dX11_ends_77 (q := 78) zM_a7 hin_77 rfl ?_
              refine zr_ls h (fun s39 h => ?_)
              refine zr_aload_n C dX11_ends_78 (q := 79) rfl 0 rfl rfl ?_
              refine zr_get C dX11_ends_79 (q := 82) zM_gX11_31_0 rfl ?_
              refine zr_iload_n C dX11_ends_82 (q := 83) rfl 1 rfl rfl ?_
              refine zr_iload C dX11_ends_83 (q := 85) 4 rfl rfl ?_
              obtain ⟨hin_85, h⟩ := zx_ck_so h
              refine zr_iast C dX11_ends_85 (q := 86) zM_a8 hin_85 rfl ?_
              refine zr_ls h (fun s40 h => ?_)
              refine zr_aload_n C dX11_ends_86 (q := 87) rfl 0 rfl rfl ?_
              refine zr_get C dX11_ends_87 (q := 90) zM_gX11_34_0 rfl ?_
              refine zr_iload_n C dX11_ends_90 (q := 91) rfl 1 rfl rfl ?_
              refine zr_iload C dX11_ends_91 (q := 93) 5 rfl rfl ?_
              obtain ⟨hin_93, h⟩ := zx_ck_so h
              refine zr_iast C dX11_ends_93 (q := 94) zM_a9 hin_93 rfl ?_
              refine zr_ls h (fun s41 h => ?_)
              refine zr_aload_n C dX11_ends_94 (q := 95) rfl 0 rfl rfl ?_
              refine zr_iconst C dX11_ends_95 (q := 96) (v := (0 : Int32)) (by decide) rfl ?_
              refine zr_put C dX11_ends_96 (q := 99) zM_pX11_123_0 (by decide) (by decide) rfl ?_
              refine zr_ls h (fun s42 h => ?_)
              refine zr_iconst C dX11_ends_99 (q := 100) (v := (1 : Int32)) (by decide) rfl ?_
              exact zr_retZI dX11_ends_100 (Or.inr rfl) h hr
            · skip
              refine zr_iload C dX11_ends_50 (q := 52) 5 rfl rfl ?_
              refine zr_if_lt (tgt := 62) (q := 55) C dX11_ends_52 h (by decide) rfl (fun h => ?_) (fun h => ?_)
              · skip
                refine zr_iconst C dX11_ends_62 (q := 63) (v := (0 : Int32)) (by decide) rfl ?_
                exact zr_retZI dX11_ends_63 (Or.inl rfl) h hr
              · skip
                refine zr_iload C dX11_ends_55 (q := 57) 5 rfl rfl ?_
                refine zr_bipush C dX11_ends_57 (q := 59) (v := (16 : Int32)) (by decide) rfl ?_
                refine zr_icmp_lt (tgt := 64) (q := 62) C dX11_ends_59 h (by decide) rfl (fun h => ?_) (fun h => ?_)
                · skip
                  refine zr_aload_n C dX11_ends_64 (q := 65) rfl 0 rfl rfl ?_
                  refine zr_get C dX11_ends_65 (q := 68) zM_gX11_25_0 rfl ?_
                  refine zr_iload_n C dX11_ends_68 (q := 69) rfl 1 rfl rfl ?_
                  refine zr_iload_n C dX11_ends_69 (q := 70) rfl 2 rfl rfl ?_
                  obtain ⟨hin_70, h⟩ := zx_ck_so h
                  refine zr_iast C dX11_ends_70 (q := 71) zM_a6 hin_70 rfl ?_
                  refine zr_ls h (fun s33 h => ?_)
                  refine zr_aload_n C dX11_ends_71 (q := 72) rfl 0 rfl rfl ?_
                  refine zr_get C dX11_ends_72 (q := 75) zM_gX11_28_0 rfl ?_
                  refine zr_iload_n C dX11_ends_75 (q := 76) rfl 1 rfl rfl ?_
                  refine zr_iload_n C dX11_ends_76 (q := 77) rfl 3 rfl rfl ?_
                  obtain ⟨hin_77, h⟩ := zx_ck_so h
                  refine zr_iast C dX11_ends_77 (q := 78) zM_a7 hin_77 rfl ?_
                  refine zr_ls h (fun s34 h => ?_)
                  refine zr_aload_n C dX11_ends_78 (q := 79) rfl 0 rfl rfl ?_
                  refine zr_get C dX11_ends_79 (q := 82) zM_gX11_31_0 rfl ?_
                  refine zr_iload_n C dX11_ends_82 (q := 83) rfl 1 rfl rfl ?_
                  refine zr_iload C dX11_ends_83 (q := 85) 4 rfl rfl ?_
                  obtain ⟨hin_85, h⟩ := zx_ck_so h
                  refine zr_iast C dX11_ends_85 (q := 86) zM_a8 hin_85 rfl ?_
                  refine zr_ls h (fun s35 h => ?_)
                  refine zr_aload_n C dX11_ends_86 (q := 87) rfl 0 rfl rfl ?_
                  refine zr_get C dX11_ends_87 (q := 90) zM_gX11_34_0 rfl ?_
                  refine zr_iload_n C dX11_ends_90 (q := 91) rfl 1 rfl rfl ?_
                  refine zr_iload C dX11_ends_91 (q := 93) 5 rfl rfl ?_
                  obtain ⟨hin_93, h⟩ := zx_ck_so h
                  refine zr_iast C dX11_ends_93 (q := 94) zM_a9 hin_93 rfl ?_
                  refine zr_ls h (fun s36 h => ?_)
                  refine zr_aload_n C dX11_ends_94 (q := 95) rfl 0 rfl rfl ?_
                  refine zr_iconst C dX11_ends_95 (q := 96) (v := (0 : Int32)) (by decide) rfl ?_
                  refine zr_put C dX11_ends_96 (q := 99) zM_pX11_123_0 (by decide) (by decide) rfl ?_
                  refine zr_ls h (fun s37 h => ?_)
                  refine zr_iconst C dX11_ends_99 (q := 100) (v := (1 : Int32)) (by decide) rfl ?_
                  exact zr_retZI dX11_ends_100 (Or.inr rfl) h hr
                · skip
                  refine zr_iconst C dX11_ends_62 (q := 63) (v := (0 : Int32)) (by decide) rfl ?_
                  exact zr_retZI dX11_ends_63 (Or.inl rfl) h hr
          · skip
            refine zr_iload C dX11_ends_33 (q := 35) 4 rfl rfl ?_
            refine zr_if_lt (tgt := 62) (q := 38) C dX11_ends_35 h (by decide) rfl (fun h => ?_) (fun h => ?_)
            · skip
              refine zr_iconst C dX11_ends_62 (q := 63) (v := (0 : Int32)) (by decide) rfl ?_
              exact zr_retZI dX11_ends_63 (Or.inl rfl) h hr
            · skip
              refine zr_iload C dX11_ends_38 (q := 40) 4 rfl rfl ?_
              refine zr_bipush C dX11_ends_40 (q := 42) (v := (16 : Int32)) (by decide) rfl ?_
              refine zr_icmp_ge (tgt := 62) (q := 45) C dX11_ends_42 h (by decide) rfl (fun h => ?_) (fun h => ?_)
              · skip
                refine zr_iconst C dX11_ends_62 (q := 63) (v := (0 : Int32)) (by decide) rfl ?_
                exact zr_retZI dX11_ends_63 (Or.inl rfl) h hr
              · skip
                refine zr_iload_n C dX11_ends_45 (q := 46) rfl 2 rfl rfl ?_
                refine zr_iconst C dX11_ends_46 (q := 47) (v := (2 : Int32)) (by decide) rfl ?_
                refine zr_icmp_ne (tgt := 64) (q := 50) C dX11_ends_47 h (by decide) rfl (fun h => ?_) (fun h => ?_)
                · skip
                  refine zr_aload_n C dX11_ends_64 (q := 65) rfl 0 rfl rfl ?_
                  refine zr_get C dX11_ends_65 (q := 68) zM_gX11_25_0 rfl ?_
                  refine zr_iload_n C dX11_ends_68 (q := 69) rfl 1 rfl rfl ?_
                  refine zr_iload_n C dX11_ends_69 (q := 70) rfl 2 rfl rfl ?_
                  obtain ⟨hin_70, h⟩ := zx_ck_so h
                  refine zr_iast C dX11_ends_70 (q := 71) zM_a6 hin_70 rfl ?_
                  refine zr_ls h (fun s28 h => ?_)
                  refine zr_aload_n C dX11_ends_71 (q := 72) rfl 0 rfl rfl ?_
                  refine zr_get C dX11_ends_72 (q := 75) zM_gX11_28_0 rfl ?_
                  refine zr_iload_n C dX11_ends_75 (q := 76) rfl 1 rfl rfl ?_
                  refine zr_iload_n C dX11_ends_76 (q := 77) rfl 3 rfl rfl ?_
                  obtain ⟨hin_77, h⟩ := zx_ck_so h
                  refine zr_iast C dX11_ends_77 (q := 78) zM_a7 hin_77 rfl ?_
                  refine zr_ls h (fun s29 h => ?_)
                  refine zr_aload_n C dX11_ends_78 (q := 79) rfl 0 rfl rfl ?_
                  refine zr_get C dX11_ends_79 (q := 82) zM_gX11_31_0 rfl ?_
                  refine zr_iload_n C dX11_ends_82 (q := 83) rfl 1 rfl rfl ?_
                  refine zr_iload C dX11_ends_83 (q := 85) 4 rfl rfl ?_
                  obtain ⟨hin_85, h⟩ := zx_ck_so h
                  refine zr_iast C dX11_ends_85 (q := 86) zM_a8 hin_85 rfl ?_
                  refine zr_ls h (fun s30 h => ?_)
                  refine zr_aload_n C dX11_ends_86 (q := 87) rfl 0 rfl rfl ?_
                  refine zr_get C dX11_ends_87 (q := 90) zM_gX11_34_0 rfl ?_
                  refine zr_iload_n C dX11_ends_90 (q := 91) rfl 1 rfl rfl ?_
                  refine zr_iload C dX11_ends_91 (q := 93) 5 rfl rfl ?_
                  obtain ⟨hin_93, h⟩ := zx_ck_so h
                  refine zr_iast C dX11_ends_93 (q := 94) zM_a9 hin_93 rfl ?_
                  refine zr_ls h (fun s31 h => ?_)
                  refine zr_aload_n C dX11_ends_94 (q := 95) rfl 0 rfl rfl ?_
                  refine zr_iconst C dX11_ends_95 (q := 96) (v := (0 : Int32)) (by decide) rfl ?_
                  refine zr_put C dX11_ends_96 (q := 99) zM_pX11_123_0 (by decide) (by decide) rfl ?_
                  refine zr_ls h (fun s32 h => ?_)
                  refine zr_iconst C dX11_ends_99 (q := 100) (v := (1 : Int32)) (by decide) rfl ?_
                  exact zr_retZI dX11_ends_100 (Or.inr rfl) h hr
                · skip
                  refine zr_iload C dX11_ends_50 (q := 52) 5 rfl rfl ?_
                  refine zr_if_lt (tgt := 62) (q := 55) C dX11_ends_52 h (by decide) rfl (fun h => ?_) (fun h => ?_)
                  · skip
                    refine zr_iconst C dX11_ends_62 (q := 63) (v := (0 : Int32)) (by decide) rfl ?_
                    exact zr_retZI dX11_ends_63 (Or.inl rfl) h hr
                  · skip
                    refine zr_iload C dX11_ends_55 (q := 57) 5 rfl rfl ?_
                    refine zr_bipush C dX11_ends_57 (q := 59) (v := (16 : Int32)) (by decide) rfl ?_
                    refine zr_icmp_lt (tgt := 64) (q := 62) C dX11_ends_59 h (by decide) rfl (fun h => ?_) (fun h => ?_)
                    · skip
                      refine zr_aload_n C dX11_ends_64 (q := 65) rfl 0 rfl rfl ?_
                      refine zr_get C dX11_ends_65 (q := 68) zM_gX11_25_0 rfl ?_
                      refine zr_iload_n C dX11_ends_68 (q := 69) rfl 1 rfl rfl ?_
                      refine zr_iload_n C dX11_ends_69 (q := 70) rfl 2 rfl rfl ?_
                      obtain ⟨hin_70, h⟩ := zx_ck_so h
                      refine zr_iast C dX11_ends_70 (q := 71) zM_a6 hin_70 rfl ?_
                      refine zr_ls h (fun s23 h => ?_)
                      refine zr_aload_n C dX11_ends_71 (q := 72) rfl 0 rfl rfl ?_
                      refine zr_get C dX11_ends_72 (q := 75) zM_gX11_28_0 rfl ?_
                      refine zr_iload_n C dX11_ends_75 (q := 76) rfl 1 rfl rfl ?_
                      refine zr_iload_n C dX11_ends_76 (q := 77) rfl 3 rfl rfl ?_
                      obtain ⟨hin_77, h⟩ := zx_ck_so h
                      refine zr_iast C dX11_ends_77 (q := 78) zM_a7 hin_77 rfl ?_
                      refine zr_ls h (fun s24 h => ?_)
                      refine zr_aload_n C dX11_ends_78 (q := 79) rfl 0 rfl rfl ?_
                      refine zr_get C dX11_ends_79 (q := 82) zM_gX11_31_0 rfl ?_
                      refine zr_iload_n C dX11_ends_82 (q := 83) rfl 1 rfl rfl ?_
                      refine zr_iload C dX11_ends_83 (q := 85) 4 rfl rfl ?_
                      obtain ⟨hin_85, h⟩ := zx_ck_so h
                      refine zr_iast C dX11_ends_85 (q := 86) zM_a8 hin_85 rfl ?_
                      refine zr_ls h (fun s25 h => ?_)
                      refine zr_aload_n C dX11_ends_86 (q := 87) rfl 0 rfl rfl ?_
                      refine zr_get C dX11_ends_87 (q := 90) zM_gX11_34_0 rfl ?_
                      refine zr_iload_n C dX11_ends_90 (q := 91) rfl 1 rfl rfl ?_
                      refine zr_iload C dX11_ends_91 (q := 93) 5 rfl rfl ?_
                      obtain ⟨hin_93, h⟩ := zx_ck_so h
                      refine zr_iast C dX11_ends_93 (q := 94) zM_a9 hin_93 rfl ?_
                      refine zr_ls h (fun s26 h => ?_)
                      refine zr_aload_n C dX11_ends_94 (q := 95) rfl 0 rfl rfl ?_
                      refine zr_iconst C dX11_ends_95 (q := 96) (v := (0 : Int32)) (by decide) rfl ?_
                      refine zr_put C dX11_ends_96 (q := 99) zM_pX11_123_0 (by decide) (by decide) rfl ?_
                      refine zr_ls h (fun s27 h => ?_)
                      refine zr_iconst C dX11_ends_99 (q := 100) (v := (1 : Int32)) (by decide) rfl ?_
                      exact zr_retZI dX11_ends_100 (Or.inr rfl) h hr
                    · skip
                      refine zr_iconst C dX11_ends_62 (q := 63) (v := (0 : Int32)) (by decide) rfl ?_
                      exact zr_retZI dX11_ends_63 (Or.inl rfl) h hr
        · skip
          refine zr_iload_n C dX11_ends_22 (q := 23) rfl 3 rfl rfl ?_
          obtain ⟨r2, hc_23, h⟩ := zx_b1_so h
          refine zr_csI (q := 26) C (As := [.int p3]) (rest := []) dX11_ends_23 (zM_ValueBenchModel_isVariable_met C.2.2.2.2.1 C.2.2.2.1 hc_23) zM_sX11_134 ⟨by decide, by decide⟩ rfl (Nat.le_of_ble_eq_true rfl) rfl rfl ?_
          refine zr_if_eq (tgt := 62) (q := 29) C dX11_ends_26 h (by decide) rfl (fun h => ?_) (fun h => ?_)
          · skip
            refine zr_iconst C dX11_ends_62 (q := 63) (v := (0 : Int32)) (by decide) rfl ?_
            exact zr_retZI dX11_ends_63 (Or.inl rfl) h hr
          · skip
            refine zr_iload_n C dX11_ends_29 (q := 30) rfl 2 rfl rfl ?_
            refine zr_if_le (tgt := 45) (q := 33) C dX11_ends_30 h (by decide) rfl (fun h => ?_) (fun h => ?_)
            · skip
              refine zr_iload_n C dX11_ends_45 (q := 46) rfl 2 rfl rfl ?_
              refine zr_iconst C dX11_ends_46 (q := 47) (v := (2 : Int32)) (by decide) rfl ?_
              refine zr_icmp_ne (tgt := 64) (q := 50) C dX11_ends_47 h (by decide) rfl (fun h => ?_) (fun h => ?_)
              · skip
                refine zr_aload_n C dX11_ends_64 (q := 65) rfl 0 rfl rfl ?_
                refine zr_get C dX11_ends_65 (q := 68) zM_gX11_25_0 rfl ?_
                refine zr_iload_n C dX11_ends_68 (q := 69) rfl 1 rfl rfl ?_
                refine zr_iload_n C dX11_ends_69 (q := 70) rfl 2 rfl rfl ?_
                obtain ⟨hin_70, h⟩ := zx_ck_so h
                refine zr_iast C dX11_ends_70 (q := 71) zM_a6 hin_70 rfl ?_
                refine zr_ls h (fun s18 h => ?_)
                refine zr_aload_n C dX11_ends_71 (q := 72) rfl 0 rfl rfl ?_
                refine zr_get C dX11_ends_72 (q := 75) zM_gX11_28_0 rfl ?_
                refine zr_iload_n C dX11_ends_75 (q := 76) rfl 1 rfl rfl ?_
                refine zr_iload_n C dX11_ends_76 (q := 77) rfl 3 rfl rfl ?_
                obtain ⟨hin_77, h⟩ := zx_ck_so h
                refine zr_iast C dX11_ends_77 (q := 78) zM_a7 hin_77 rfl ?_
                refine zr_ls h (fun s19 h => ?_)
                refine zr_aload_n C dX11_ends_78 (q := 79) rfl 0 rfl rfl ?_
                refine zr_get C dX11_ends_79 (q := 82) zM_gX11_31_0 rfl ?_
                refine zr_iload_n C dX11_ends_82 (q := 83) rfl 1 rfl rfl ?_
                refine zr_iload C dX11_ends_83 (q := 85) 4 rfl rfl ?_
                obtain ⟨hin_85, h⟩ := zx_ck_so h
                refine zr_iast C dX11_ends_85 (q := 86) zM_a8 hin_85 rfl ?_
                refine zr_ls h (fun s20 h => ?_)
                refine zr_aload_n C dX11_ends_86 (q := 87) rfl 0 rfl rfl ?_
                refine zr_get C dX11_ends_87 (q := 90) zM_gX11_34_0 rfl ?_
                refine zr_iload_n C dX11_ends_90 (q := 91) rfl 1 rfl rfl ?_
                refine zr_iload C dX11_ends_91 (q := 93) 5 rfl rfl ?_
                obtain ⟨hin_93, h⟩ := zx_ck_so h
                refine zr_iast C dX11_ends_93 (q := 94) zM_a9 hin_93 rfl ?_
                refine zr_ls h (fun s21 h => ?_)
                refine zr_aload_n C dX11_ends_94 (q := 95) rfl 0 rfl rfl ?_
                refine zr_iconst C dX11_ends_95 (q := 96) (v := (0 : Int32)) (by decide) rfl ?_
                refine zr_put C dX11_ends_96 (q := 99) zM_pX11_123_0 (by decide) (by decide) rfl ?_
                refine zr_ls h (fun s22 h => ?_)
                refine zr_iconst C dX11_ends_99 (q := 100) (v := (1 : Int32)) (by decide) rfl ?_
                exact zr_retZI dX11_ends_100 (Or.inr rfl) h hr
              · skip
                refine zr_iload C dX11_ends_50 (q := 52) 5 rfl rfl ?_
                refine zr_if_lt (tgt := 62) (q := 55) C dX11_ends_52 h (by decide) rfl (fun h => ?_) (fun h => ?_)
                · skip
                  refine zr_iconst C dX11_ends_62 (q := 63) (v := (0 : Int32)) (by decide) rfl ?_
                  exact zr_retZI dX11_ends_63 (Or.inl rfl) h hr
                · skip
                  refine zr_iload C dX11_ends_55 (q := 57) 5 rfl rfl ?_
                  refine zr_bipush C dX11_ends_57 (q := 59) (v := (16 : Int32)) (by decide) rfl ?_
                  refine zr_icmp_lt (tgt := 64) (q := 62) C dX11_ends_59 h (by decide) rfl (fun h => ?_) (fun h => ?_)
                  · skip
                    refine zr_aload_n C dX11_ends_64 (q := 65) rfl 0 rfl rfl ?_
                    refine zr_get C dX11_ends_65 (q := 68) zM_gX11_25_0 rfl ?_
                    refine zr_iload_n C dX11_ends_68 (q := 69) rfl 1 rfl rfl ?_
                    refine zr_iload_n C dX11_ends_69 (q := 70) rfl 2 rfl rfl ?_
                    obtain ⟨hin_70, h⟩ := zx_ck_so h
                    refine zr_iast C dX11_ends_70 (q := 71) zM_a6 hin_70 rfl ?_
                    refine zr_ls h (fun s13 h => ?_)
                    refine zr_aload_n C dX11_ends_71 (q := 72) rfl 0 rfl rfl ?_
                    refine zr_get C dX11_ends_72 (q := 75) zM_gX11_28_0 rfl ?_
                    refine zr_iload_n C dX11_ends_75 (q := 76) rfl 1 rfl rfl ?_
                    refine zr_iload_n C dX11_ends_76 (q := 77) rfl 3 rfl rfl ?_
                    obtain ⟨hin_77, h⟩ := zx_ck_so h
                    refine zr_iast C dX11_ends_77 (q := 78) zM_a7 hin_77 rfl ?_
                    refine zr_ls h (fun s14 h => ?_)
                    refine zr_aload_n C dX11_ends_78 (q := 79) rfl 0 rfl rfl ?_
                    refine zr_get C dX11_ends_79 (q := 82) zM_gX11_31_0 rfl ?_
                    refine zr_iload_n C dX11_ends_82 (q := 83) rfl 1 rfl rfl ?_
                    refine zr_iload C dX11_ends_83 (q := 85) 4 rfl rfl ?_
                    obtain ⟨hin_85, h⟩ := zx_ck_so h
                    refine zr_iast C dX11_ends_85 (q := 86) zM_a8 hin_85 rfl ?_
                    refine zr_ls h (fun s15 h => ?_)
                    refine zr_aload_n C dX11_ends_86 (q := 87) rfl 0 rfl rfl ?_
                    refine zr_get C dX11_ends_87 (q := 90) zM_gX11_34_0 rfl ?_
                    refine zr_iload_n C dX11_ends_90 (q := 91) rfl 1 rfl rfl ?_
                    refine zr_iload C dX11_ends_91 (q := 93) 5 rfl rfl ?_
                    obtain ⟨hin_93, h⟩ := zx_ck_so h
                    refine zr_iast C dX11_ends_93 (q := 94) zM_a9 hin_93 rfl ?_
                    refine zr_ls h (fun s16 h => ?_)
                    refine zr_aload_n C dX11_ends_94 (q := 95) rfl 0 rfl rfl ?_
                    refine zr_iconst C dX11_ends_95 (q := 96) (v := (0 : Int32)) (by decide) rfl ?_
                    refine zr_put C dX11_ends_96 (q := 99) zM_pX11_123_0 (by decide) (by decide) rfl ?_
                    refine zr_ls h (fun s17 h => ?_)
                    refine zr_iconst C dX11_ends_99 (q := 100) (v := (1 : Int32)) (by decide) rfl ?_
                    exact zr_retZI dX11_ends_100 (Or.inr rfl) h hr
                  · skip
                    refine zr_iconst C dX11_ends_62 (q := 63) (v := (0 : Int32)) (by decide) rfl ?_
                    exact zr_retZI dX11_ends_63 (Or.inl rfl) h hr
            · skip
              refine zr_iload C dX11_ends_33 (q := 35) 4 rfl rfl ?_
              refine zr_if_lt (tgt := 62) (q := 38) C dX11_ends_35 h (by decide) rfl (fun h => ?_) (fun h => ?_)
              · skip
                refine zr_iconst C dX11_ends_62 (q := 63) (v := (0 : Int32)) (by decide) rfl ?_
                exact zr_retZI dX11_ends_63 (Or.inl rfl) h hr
              · skip
                refine zr_iload C dX11_ends_38 (q := 40) 4 rfl rfl ?_
                refine zr_bipush C dX11_ends_40 (q := 42) (v := (16 : Int32)) (by decide) rfl ?_
                refine zr_icmp_ge (tgt := 62) (q := 45) C dX11_ends_42 h (by decide) rfl (fun h => ?_) (fun h => ?_)
                · skip
                  refine zr_iconst C dX11_ends_62 (q := 63) (v := (0 : Int32)) (by decide) rfl ?_
                  exact zr_retZI dX11_ends_63 (Or.inl rfl) h hr
                · skip
                  refine zr_iload_n C dX11_ends_45 (q := 46) rfl 2 rfl rfl ?_
                  refine zr_iconst C dX11_ends_46 (q := 47) (v := (2 : Int32)) (by decide) rfl ?_
                  refine zr_icmp_ne (tgt := 64) (q := 50) C dX11_ends_47 h (by decide) rfl (fun h => ?_) (fun h => ?_)
                  · skip
                    refine zr_aload_n C dX11_ends_64 (q := 65) rfl 0 rfl rfl ?_
                    refine zr_get C dX11_ends_65 (q := 68) zM_gX11_25_0 rfl ?_
                    refine zr_iload_n C dX11_ends_68 (q := 69) rfl 1 rfl rfl ?_
                    refine zr_iload_n C dX11_ends_69 (q := 70) rfl 2 rfl rfl ?_
                    obtain ⟨hin_70, h⟩ := zx_ck_so h
                    refine zr_iast C dX11_ends_70 (q := 71) zM_a6 hin_70 rfl ?_
                    refine zr_ls h (fun s8 h => ?_)
                    refine zr_aload_n C dX11_ends_71 (q := 72) rfl 0 rfl rfl ?_
                    refine zr_get C dX11_ends_72 (q := 75) zM_gX11_28_0 rfl ?_
                    refine zr_iload_n C dX11_ends_75 (q := 76) rfl 1 rfl rfl ?_
                    refine zr_iload_n C dX11_ends_76 (q := 77) rfl 3 rfl rfl ?_
                    obtain ⟨hin_77, h⟩ := zx_ck_so h
                    refine zr_iast C dX11_ends_77 (q := 78) zM_a7 hin_77 rfl ?_
                    refine zr_ls h (fun s9 h => ?_)
                    refine zr_aload_n C dX11_ends_78 (q := 79) rfl 0 rfl rfl ?_
                    refine zr_get C dX11_ends_79 (q := 82) zM_gX11_31_0 rfl ?_
                    refine zr_iload_n C dX11_ends_82 (q := 83) rfl 1 rfl rfl ?_
                    refine zr_iload C dX11_ends_83 (q := 85) 4 rfl rfl ?_
                    obtain ⟨hin_85, h⟩ := zx_ck_so h
                    refine zr_iast C dX11_ends_85 (q := 86) zM_a8 hin_85 rfl ?_
                    refine zr_ls h (fun s10 h => ?_)
                    refine zr_aload_n C dX11_ends_86 (q := 87) rfl 0 rfl rfl ?_
                    refine zr_get C dX11_ends_87 (q := 90) zM_gX11_34_0 rfl ?_
                    refine zr_iload_n C dX11_ends_90 (q := 91) rfl 1 rfl rfl ?_
                    refine zr_iload C dX11_ends_91 (q := 93) 5 rfl rfl ?_
                    obtain ⟨hin_93, h⟩ := zx_ck_so h
                    refine zr_iast C dX11_ends_93 (q := 94) zM_a9 hin_93 rfl ?_
                    refine zr_ls h (fun s11 h => ?_)
                    refine zr_aload_n C dX11_ends_94 (q := 95) rfl 0 rfl rfl ?_
                    refine zr_iconst C dX11_ends_95 (q := 96) (v := (0 : Int32)) (by decide) rfl ?_
                    refine zr_put C dX11_ends_96 (q := 99) zM_pX11_123_0 (by decide) (by decide) rfl ?_
                    refine zr_ls h (fun s12 h => ?_)
                    refine zr_iconst C dX11_ends_99 (q := 100) (v := (1 : Int32)) (by decide) rfl ?_
                    exact zr_retZI dX11_ends_100 (Or.inr rfl) h hr
                  · skip
                    refine zr_iload C dX11_ends_50 (q := 52) 5 rfl rfl ?_
                    refine zr_if_lt (tgt := 62) (q := 55) C dX11_ends_52 h (by decide) rfl (fun h => ?_) (fun h => ?_)
                    · skip
                      refine zr_iconst C dX11_ends_62 (q := 63) (v := (0 : Int32)) (by decide) rfl ?_
                      exact zr_retZI dX11_ends_63 (Or.inl rfl) h hr
                    · skip
                      refine zr_iload C dX11_ends_55 (q := 57) 5 rfl rfl ?_
                      refine zr_bipush C dX11_ends_57 (q := 59) (v := (16 : Int32)) (by decide) rfl ?_
                      refine zr_icmp_lt (tgt := 64) (q := 62) C dX11_ends_59 h (by decide) rfl (fun h => ?_) (fun h => ?_)
                      · skip
                        refine zr_aload_n C dX11_ends_64 (q := 65) rfl 0 rfl rfl ?_
                        refine zr_get C dX11_ends_65 (q := 68) zM_gX11_25_0 rfl ?_
                        refine zr_iload_n C dX11_ends_68 (q := 69) rfl 1 rfl rfl ?_
                        refine zr_iload_n C dX11_ends_69 (q := 70) rfl 2 rfl rfl ?_
                        obtain ⟨hin_70, h⟩ := zx_ck_so h
                        refine zr_iast C dX11_ends_70 (q := 71) zM_a6 hin_70 rfl ?_
                        refine zr_ls h (fun s3 h => ?_)
                        refine zr_aload_n C dX11_ends_71 (q := 72) rfl 0 rfl rfl ?_
                        refine zr_get C dX11_ends_72 (q := 75) zM_gX11_28_0 rfl ?_
                        refine zr_iload_n C dX11_ends_75 (q := 76) rfl 1 rfl rfl ?_
                        refine zr_iload_n C dX11_ends_76 (q := 77) rfl 3 rfl rfl ?_
                        obtain ⟨hin_77, h⟩ := zx_ck_so h
                        refine zr_iast C dX11_ends_77 (q := 78) zM_a7 hin_77 rfl ?_
                        refine zr_ls h (fun s4 h => ?_)
                        refine zr_aload_n C dX11_ends_78 (q := 79) rfl 0 rfl rfl ?_
                        refine zr_get C dX11_ends_79 (q := 82) zM_gX11_31_0 rfl ?_
                        refine zr_iload_n C dX11_ends_82 (q := 83) rfl 1 rfl rfl ?_
                        refine zr_iload C dX11_ends_83 (q := 85) 4 rfl rfl ?_
                        obtain ⟨hin_85, h⟩ := zx_ck_so h
                        refine zr_iast C dX11_ends_85 (q := 86) zM_a8 hin_85 rfl ?_
                        refine zr_ls h (fun s5 h => ?_)
                        refine zr_aload_n C dX11_ends_86 (q := 87) rfl 0 rfl rfl ?_
                        refine zr_get C dX11_ends_87 (q := 90) zM_gX11_34_0 rfl ?_
                        refine zr_iload_n C dX11_ends_90 (q := 91) rfl 1 rfl rfl ?_
                        refine zr_iload C dX11_ends_91 (q := 93) 5 rfl rfl ?_
                        obtain ⟨hin_93, h⟩ := zx_ck_so h
                        refine zr_iast C dX11_ends_93 (q := 94) zM_a9 hin_93 rfl ?_
                        refine zr_ls h (fun s6 h => ?_)
                        refine zr_aload_n C dX11_ends_94 (q := 95) rfl 0 rfl rfl ?_
                        refine zr_iconst C dX11_ends_95 (q := 96) (v := (0 : Int32)) (by decide) rfl ?_
                        refine zr_put C dX11_ends_96 (q := 99) zM_pX11_123_0 (by decide) (by decide) rfl ?_
                        refine zr_ls h (fun s7 h => ?_)
                        refine zr_iconst C dX11_ends_99 (q := 100) (v := (1 : Int32)) (by decide) rfl ?_
                        exact zr_retZI dX11_ends_100 (Or.inr rfl) h hr
                      · skip
                        refine zr_iconst C dX11_ends_62 (q := 63) (v := (0 : Int32)) (by decide) rfl ?_
                        exact zr_retZI dX11_ends_63 (Or.inl rfl) h hr
theorem zM_ValueBenchModel_ends_met {l : Launch} {D : va_G} {cz : ClassId × ClassId} {ad : Nat → Nat} (hS : zx_So zM_sd) (hi : zx_I zM_sd ad) {p1 p2 p3 p4 p5 : Int32} {s : zx_S} {v : Int32} {s1 : zx_S} (h : zM_ValueBenchModel_ends p1 p2 p3 p4 p5 s = some (v, s1)) : zx_MI zM_sd l D cz ad yX11_ends cX11_ends 6 .boolean 1 21 [.ref (ad 0), .int p1, .int p2, .int p3, .int p4, .int p5] s v s1 := zx_metI hS hi (by decide +kernel) rfl (Nat.le_of_ble_eq_true rfl) (fun Z e1 e2 e3 e4 C hr => by subst e1 e2 e3 e4; exact zM_ValueBenchModel_ends_w (r := (v, s1)) C p1 p2 p3 p4 p5 s hr h)
set_option maxRecDepth 100000 in
set_option maxHeartbeats 4000000 in
theorem zM_ValueBenchModel_clear_w {Z : zx_Z} (C : zx_ok zM_sd Z cX11_clear 2 RX11 0 0) {r : Int32 × zx_S} (s : zx_S) (hr : zx_rI zM_sd Z cX11_clear 2 .int r.1 r.2) (h : zM_ValueBenchModel_clear s = some r) : zW zM_sd Z 2 0 [(0, .ref (zz_d Z 0))] [] s := by
  unfold zM_ValueBenchModel_clear at h
  refine zr_aload_n C dX11_clear_0 (q := 1) rfl 0 rfl rfl ?_
  refine zr_get C dX11_clear_1 (q := 4) zM_gX11_120_0 rfl ?_
  refine zr_top h (fun v1_1 h => ?_)
  refine zr_istore_n C dX11_clear_4 (q := 5) rfl (by decide) (lv' := [(1, .int v1_1), (0, .ref (zz_d Z 0))]) rfl rfl ?_
  refine zr_aload_n C dX11_clear_5 (q := 6) rfl 1 rfl rfl ?_
  refine zr_iconst C dX11_clear_6 (q := 7) (v := (0 : Int32)) (by decide) rfl ?_
  refine zr_put C dX11_clear_7 (q := 10) zM_pX11_120_0 rfl rfl rfl ?_
  refine zr_ls h (fun s2 h => ?_)
  refine zr_aload_n C dX11_clear_10 (q := 11) rfl 1 rfl rfl ?_
  refine zr_iconst C dX11_clear_11 (q := 12) (v := (0 : Int32)) (by decide) rfl ?_
  refine zr_put C dX11_clear_12 (q := 15) zM_pX11_131_0 rfl rfl rfl ?_
  refine zr_ls h (fun s3 h => ?_)
  refine zr_aload_n C dX11_clear_15 (q := 16) rfl 1 rfl rfl ?_
  refine zr_iconst C dX11_clear_16 (q := 17) (v := (0 : Int32)) (by decide) rfl ?_
  refine zr_put C dX11_clear_17 (q := 20) zM_pX11_123_0 (by decide) (by decide) rfl ?_
  refine zr_ls h (fun s4 h => ?_)
  refine zr_iload_n C dX11_clear_20 (q := 21) rfl 0 rfl rfl ?_
  exact zr_retI dX11_clear_21 h hr
theorem zM_ValueBenchModel_clear_met {l : Launch} {D : va_G} {cz : ClassId × ClassId} {ad : Nat → Nat} (hS : zx_So zM_sd) (hi : zx_I zM_sd ad) {s : zx_S} {v : Int32} {s1 : zx_S} (h : zM_ValueBenchModel_clear s = some (v, s1)) : zx_MI zM_sd l D cz ad yX11_clear cX11_clear 2 .int 0 0 [.ref (ad 0)] s v s1 := zx_metI hS hi (by decide +kernel) rfl (Nat.le_of_ble_eq_true rfl) (fun Z e1 e2 e3 e4 C hr => by subst e1 e2 e3 e4; exact zM_ValueBenchModel_clear_w (r := (v, s1)) C s hr h)
set_option maxRecDepth 100000 in
set_option maxHeartbeats 4000000 in
theorem zM_ValueBenchModel_howOf_w {Z : zx_Z} (C : zx_ok zM_sd Z cX11_howOf 2 RX11 0 0) {r : Int32} (p1 : Int32) (s : zx_S) (hr : zx_rI zM_sd Z cX11_howOf 2 .int r s) (h : zM_ValueBenchModel_howOf p1 s = some r) : zW zM_sd Z 2 0 [(0, .ref (zz_d Z 0)), (1, .int p1)] [] s := by
  unfold zM_ValueBenchModel_howOf at h
  refine zr_aload_n C dX11_howOf_0 (q := 1) rfl 0 rfl rfl ?_
  refine zr_get C dX11_howOf_1 (q := 4) zM_gX11_25_0 rfl ?_
  refine zr_iload_n C dX11_howOf_4 (q := 5) rfl 1 rfl rfl ?_
  obtain ⟨hin_5, h⟩ := zx_ck_so h
  refine zr_iald C dX11_howOf_5 (q := 6) zM_a6 hin_5 rfl ?_
  refine zr_iconst C dX11_howOf_6 (q := 7) (v := (1 : Int32)) (by decide) rfl ?_
  refine zr_icmp_ne (tgt := 23) (q := 10) C dX11_howOf_7 h (by decide) rfl (fun h => ?_) (fun h => ?_)
  · skip
    refine zr_aload_n C dX11_howOf_23 (q := 24) rfl 0 rfl rfl ?_
    refine zr_get C dX11_howOf_24 (q := 27) zM_gX11_25_0 rfl ?_
    refine zr_iload_n C dX11_howOf_27 (q := 28) rfl 1 rfl rfl ?_
    obtain ⟨hin_28, h⟩ := zx_ck_so h
    refine zr_iald C dX11_howOf_28 (q := 29) zM_a6 hin_28 rfl ?_
    refine zr_iconst C dX11_howOf_29 (q := 30) (v := (2 : Int32)) (by decide) rfl ?_
    refine zr_icmp_ne (tgt := 63) (q := 33) C dX11_howOf_30 h (by decide) rfl (fun h => ?_) (fun h => ?_)
    · skip
      refine zr_aload_n C dX11_howOf_63 (q := 64) rfl 0 rfl rfl ?_
      refine zr_get C dX11_howOf_64 (q := 67) zM_gX11_25_0 rfl ?_
      refine zr_iload_n C dX11_howOf_67 (q := 68) rfl 1 rfl rfl ?_
      obtain ⟨hin_68, h⟩ := zx_ck_so h
      refine zr_iald C dX11_howOf_68 (q := 69) zM_a6 hin_68 rfl ?_
      exact zr_retR dX11_howOf_69 h hr
    · skip
      refine zr_aload_n C dX11_howOf_33 (q := 34) rfl 0 rfl rfl ?_
      refine zr_get C dX11_howOf_34 (q := 37) zM_gX11_31_0 rfl ?_
      refine zr_iload_n C dX11_howOf_37 (q := 38) rfl 1 rfl rfl ?_
      obtain ⟨hin_38, h⟩ := zx_ck_so h
      refine zr_iald C dX11_howOf_38 (q := 39) zM_a8 hin_38 rfl ?_
      refine zr_aload_n C dX11_howOf_39 (q := 40) rfl 0 rfl rfl ?_
      refine zr_get C dX11_howOf_40 (q := 43) zM_gX11_120_0 rfl ?_
      refine zr_icmp_ge (tgt := 59) (q := 46) C dX11_howOf_43 h (by decide) rfl (fun h => ?_) (fun h => ?_)
      · skip
        refine zr_iconst C dX11_howOf_59 (q := 60) (v := (0 : Int32)) (by decide) rfl ?_
        refine zr_goto (q := 69) C dX11_howOf_60 (by decide) ?_
        exact zr_retR dX11_howOf_69 h hr
      · skip
        refine zr_aload_n C dX11_howOf_46 (q := 47) rfl 0 rfl rfl ?_
        refine zr_get C dX11_howOf_47 (q := 50) zM_gX11_34_0 rfl ?_
        refine zr_iload_n C dX11_howOf_50 (q := 51) rfl 1 rfl rfl ?_
        obtain ⟨hin_51, h⟩ := zx_ck_so h
        refine zr_iald C dX11_howOf_51 (q := 52) zM_a9 hin_51 rfl ?_
        refine zr_aload_n C dX11_howOf_52 (q := 53) rfl 0 rfl rfl ?_
        refine zr_get C dX11_howOf_53 (q := 56) zM_gX11_120_0 rfl ?_
        refine zr_icmp_lt (tgt := 63) (q := 59) C dX11_howOf_56 h (by decide) rfl (fun h => ?_) (fun h => ?_)
        · skip
          refine zr_aload_n C dX11_howOf_63 (q := 64) rfl 0 rfl rfl ?_
          refine zr_get C dX11_howOf_64 (q := 67) zM_gX11_25_0 rfl ?_
          refine zr_iload_n C dX11_howOf_67 (q := 68) rfl 1 rfl rfl ?_
          obtain ⟨hin_68, h⟩ := zx_ck_so h
          refine zr_iald C dX11_howOf_68 (q := 69) zM_a6 hin_68 rfl ?_
          exact zr_retR dX11_howOf_69 h hr
        · skip
          refine zr_iconst C dX11_howOf_59 (q := 60) (v := (0 : Int32)) (by decide) rfl ?_
          refine zr_goto (q := 69) C dX11_howOf_60 (by decide) ?_
          exact zr_retR dX11_howOf_69 h hr
  · skip
    refine zr_aload_n C dX11_howOf_10 (q := 11) rfl 0 rfl rfl ?_
    refine zr_get C dX11_howOf_11 (q := 14) zM_gX11_31_0 rfl ?_
    refine zr_iload_n C dX11_howOf_14 (q := 15) rfl 1 rfl rfl ?_
    obtain ⟨hin_15, h⟩ := zx_ck_so h
    refine zr_iald C dX11_howOf_15 (q := 16) zM_a8 hin_15 rfl ?_
    refine zr_aload_n C dX11_howOf_16 (q := 17) rfl 0 rfl rfl ?_
    refine zr_get C dX11_howOf_17 (q := 20) zM_gX11_120_0 rfl ?_
    refine zr_icmp_ge (tgt := 59) (q := 23) C dX11_howOf_20 h (by decide) rfl (fun h => ?_) (fun h => ?_)
    · skip
      refine zr_iconst C dX11_howOf_59 (q := 60) (v := (0 : Int32)) (by decide) rfl ?_
      refine zr_goto (q := 69) C dX11_howOf_60 (by decide) ?_
      exact zr_retR dX11_howOf_69 h hr
    · skip
      refine zr_aload_n C dX11_howOf_23 (q := 24) rfl 0 rfl rfl ?_
      refine zr_get C dX11_howOf_24 (q := 27) zM_gX11_25_0 rfl ?_
      refine zr_iload_n C dX11_howOf_27 (q := 28) rfl 1 rfl rfl ?_
      obtain ⟨hin_28, h⟩ := zx_ck_so h
      refine zr_iald C dX11_howOf_28 (q := 29) zM_a6 hin_28 rfl ?_
      refine zr_iconst C dX11_howOf_29 (q := 30) (v := (2 : Int32)) (by decide) rfl ?_
      refine zr_icmp_ne (tgt := 63) (q := 33) C dX11_howOf_30 h (by decide) rfl (fun h => ?_) (fun h => ?_)
      · skip
        refine zr_aload_n C dX11_howOf_63 (q := 64) rfl 0 rfl rfl ?_
        refine zr_get C dX11_howOf_64 (q := 67) zM_gX11_25_0 rfl ?_
        refine zr_iload_n C dX11_howOf_67 (q := 68) rfl 1 rfl rfl ?_
        obtain ⟨hin_68, h⟩ := zx_ck_so h
        refine zr_iald C dX11_howOf_68 (q := 69) zM_a6 hin_68 rfl ?_
        exact zr_retR dX11_howOf_69 h hr
      · skip
        refine zr_aload_n C dX11_howOf_33 (q := 34) rfl 0 rfl rfl ?_
        refine zr_get C dX11_howOf_34 (q := 37) zM_gX11_31_0 rfl ?_
        refine zr_iload_n C dX11_howOf_37 (q := 38) rfl 1 rfl rfl ?_
        obtain ⟨hin_38, h⟩ := zx_ck_so h
        refine zr_iald C dX11_howOf_38 (q := 39) zM_a8 hin_38 rfl ?_
        refine zr_aload_n C dX11_howOf_39 (q := 40) rfl 0 rfl rfl ?_
        refine zr_get C dX11_howOf_40 (q := 43) zM_gX11_120_0 rfl ?_
        refine zr_icmp_ge (tgt := 59) (q := 46) C dX11_howOf_43 h (by decide) rfl (fun h => ?_) (fun h => ?_)
        · skip
          refine zr_iconst C dX11_howOf_59 (q := 60) (v := (0 : Int32)) (by decide) rfl ?_
          refine zr_goto (q := 69) C dX11_howOf_60 (by decide) ?_
          exact zr_retR dX11_howOf_69 h hr
        · skip
          refine zr_aload_n C dX11_howOf_46 (q := 47) rfl 0 rfl rfl ?_
          refine zr_get C dX11_howOf_47 (q := 50) zM_gX11_34_0 rfl ?_
          refine zr_iload_n C dX11_howOf_50 (q := 51) rfl 1 rfl rfl ?_
          obtain ⟨hin_51, h⟩ := zx_ck_so h
          refine zr_iald C dX11_howOf_51 (q := 52) zM_a9 hin_51 rfl ?_
          refine zr_aload_n C dX11_howOf_52 (q := 53) rfl 0 rfl rfl ?_
          refine zr_get C dX11_howOf_53 (q := 56) zM_gX11_120_0 rfl ?_
          refine zr_icmp_lt (tgt := 63) (q := 59) C dX11_howOf_56 h (by decide) rfl (fun h => ?_) (fun h => ?_)
          · skip
            refine zr_aload_n C dX11_howOf_63 (q := 64) rfl 0 rfl rfl ?_
            refine zr_get C dX11_howOf_64 (q := 67) zM_gX11_25_0 rfl ?_
            refine zr_iload_n C dX11_howOf_67 (q := 68) rfl 1 rfl rfl ?_
            obtain ⟨hin_68, h⟩ := zx_ck_so h
            refine zr_iald C dX11_howOf_68 (q := 69) zM_a6 hin_68 rfl ?_
            exact zr_retR dX11_howOf_69 h hr
          · skip
            refine zr_iconst C dX11_howOf_59 (q := 60) (v := (0 : Int32)) (by decide) rfl ?_
            refine zr_goto (q := 69) C dX11_howOf_60 (by decide) ?_
            exact zr_retR dX11_howOf_69 h hr
theorem zM_ValueBenchModel_howOf_met {l : Launch} {D : va_G} {cz : ClassId × ClassId} {ad : Nat → Nat} (hS : zx_So zM_sd) (hi : zx_I zM_sd ad) {p1 : Int32} {s : zx_S} {v : Int32} (h : zM_ValueBenchModel_howOf p1 s = some v) : zx_MI zM_sd l D cz ad yX11_howOf cX11_howOf 2 .int 0 0 [.ref (ad 0), .int p1] s v s := zx_metI hS hi (by decide +kernel) rfl (Nat.le_of_ble_eq_true rfl) (fun Z e1 e2 e3 e4 C hr => by subst e1 e2 e3 e4; exact zM_ValueBenchModel_howOf_w C p1 s hr h)
set_option maxRecDepth 100000 in
set_option maxHeartbeats 4000000 in
theorem zM_ValueBenchModel_leads_w {Z : zx_Z} (C : zx_ok zM_sd Z cX11_leads 4 RX11 1 21) {r : Int32} (p1 p2 : Int32) (s : zx_S) (hr : zx_rI zM_sd Z cX11_leads 4 .boolean r s) (h : zM_ValueBenchModel_leads p1 p2 s = some r) : zW zM_sd Z 4 0 [(0, .ref (zz_d Z 0)), (1, .int p1), (2, .int p2)] [] s := by
  unfold zM_ValueBenchModel_leads at h
  refine zr_aload_n C dX11_leads_0 (q := 1) rfl 0 rfl rfl ?_
  refine zr_iload_n C dX11_leads_1 (q := 2) rfl 1 rfl rfl ?_
  obtain ⟨r1, hc_2, h⟩ := zx_b1_so h
  refine zr_cvI (q := 5) C (As := [.int p1]) (k := 0) (rest := []) dX11_leads_2 (zM_ValueBenchModel_howOf_met C.2.2.2.2.1 C.2.2.2.1 hc_2) zM_vX11_137 zM_o0 ⟨by decide, by decide⟩ rfl (Nat.le_of_ble_eq_true rfl) rfl rfl ?_
  refine zr_istore_n C dX11_leads_5 (q := 6) rfl (by decide) (lv' := [(3, .int r1), (0, .ref (zz_d Z 0)), (1, .int p1), (2, .int p2)]) rfl rfl ?_
  refine zr_iload_n C dX11_leads_6 (q := 7) rfl 0 rfl rfl ?_
  refine zr_if_le (tgt := 20) (q := 10) C dX11_leads_7 h (by decide) rfl (fun h => ?_) (fun h => ?_)
  · skip
    refine zr_iload_n C dX11_leads_20 (q := 21) rfl 0 rfl rfl ?_
    refine zr_iconst C dX11_leads_21 (q := 22) (v := (2 : Int32)) (by decide) rfl ?_
    refine zr_icmp_ne (tgt := 39) (q := 25) C dX11_leads_22 h (by decide) rfl (fun h => ?_) (fun h => ?_)
    · skip
      refine zr_iconst C dX11_leads_39 (q := 40) (v := (0 : Int32)) (by decide) rfl ?_
      exact zr_retZR dX11_leads_40 (Or.inl rfl) h hr
    · skip
      refine zr_aload_n C dX11_leads_25 (q := 26) rfl 1 rfl rfl ?_
      refine zr_get C dX11_leads_26 (q := 29) zM_gX11_34_0 rfl ?_
      refine zr_iload_n C dX11_leads_29 (q := 30) rfl 2 rfl rfl ?_
      obtain ⟨hin_30, h⟩ := zx_ck_so h
      refine zr_iald C dX11_leads_30 (q := 31) zM_a9 hin_30 rfl ?_
      refine zr_iload_n C dX11_leads_31 (q := 32) rfl 3 rfl rfl ?_
      refine zr_icmp_ne (tgt := 39) (q := 35) C dX11_leads_32 h (by decide) rfl (fun h => ?_) (fun h => ?_)
      · skip
        refine zr_iconst C dX11_leads_39 (q := 40) (v := (0 : Int32)) (by decide) rfl ?_
        exact zr_retZR dX11_leads_40 (Or.inl rfl) h hr
      · skip
        refine zr_iconst C dX11_leads_35 (q := 36) (v := (1 : Int32)) (by decide) rfl ?_
        refine zr_goto (q := 40) C dX11_leads_36 (by decide) ?_
        exact zr_retZR dX11_leads_40 (Or.inr rfl) h hr
  · skip
    refine zr_aload_n C dX11_leads_10 (q := 11) rfl 1 rfl rfl ?_
    refine zr_get C dX11_leads_11 (q := 14) zM_gX11_31_0 rfl ?_
    refine zr_iload_n C dX11_leads_14 (q := 15) rfl 2 rfl rfl ?_
    obtain ⟨hin_15, h⟩ := zx_ck_so h
    refine zr_iald C dX11_leads_15 (q := 16) zM_a8 hin_15 rfl ?_
    refine zr_iload_n C dX11_leads_16 (q := 17) rfl 3 rfl rfl ?_
    refine zr_icmp_eq (tgt := 35) (q := 20) C dX11_leads_17 h (by decide) rfl (fun h => ?_) (fun h => ?_)
    · skip
      refine zr_iconst C dX11_leads_35 (q := 36) (v := (1 : Int32)) (by decide) rfl ?_
      refine zr_goto (q := 40) C dX11_leads_36 (by decide) ?_
      exact zr_retZR dX11_leads_40 (Or.inr rfl) h hr
    · skip
      refine zr_iload_n C dX11_leads_20 (q := 21) rfl 0 rfl rfl ?_
      refine zr_iconst C dX11_leads_21 (q := 22) (v := (2 : Int32)) (by decide) rfl ?_
      refine zr_icmp_ne (tgt := 39) (q := 25) C dX11_leads_22 h (by decide) rfl (fun h => ?_) (fun h => ?_)
      · skip
        refine zr_iconst C dX11_leads_39 (q := 40) (v := (0 : Int32)) (by decide) rfl ?_
        exact zr_retZR dX11_leads_40 (Or.inl rfl) h hr
      · skip
        refine zr_aload_n C dX11_leads_25 (q := 26) rfl 1 rfl rfl ?_
        refine zr_get C dX11_leads_26 (q := 29) zM_gX11_34_0 rfl ?_
        refine zr_iload_n C dX11_leads_29 (q := 30) rfl 2 rfl rfl ?_
        obtain ⟨hin_30, h⟩ := zx_ck_so h
        refine zr_iald C dX11_leads_30 (q := 31) zM_a9 hin_30 rfl ?_
        refine zr_iload_n C dX11_leads_31 (q := 32) rfl 3 rfl rfl ?_
        refine zr_icmp_ne (tgt := 39) (q := 35) C dX11_leads_32 h (by decide) rfl (fun h => ?_) (fun h => ?_)
        · skip
          refine zr_iconst C dX11_leads_39 (q := 40) (v := (0 : Int32)) (by decide) rfl ?_
          exact zr_retZR dX11_leads_40 (Or.inl rfl) h hr
        · skip
          refine zr_iconst C dX11_leads_35 (q := 36) (v := (1 : Int32)) (by decide) rfl ?_
          refine zr_goto (q := 40) C dX11_leads_36 (by decide) ?_
          exact zr_retZR dX11_leads_40 (Or.inr rfl) h hr
theorem zM_ValueBenchModel_leads_met {l : Launch} {D : va_G} {cz : ClassId × ClassId} {ad : Nat → Nat} (hS : zx_So zM_sd) (hi : zx_I zM_sd ad) {p1 p2 : Int32} {s : zx_S} {v : Int32} (h : zM_ValueBenchModel_leads p1 p2 s = some v) : zx_MI zM_sd l D cz ad yX11_leads cX11_leads 4 .boolean 1 21 [.ref (ad 0), .int p1, .int p2] s v s := zx_metI hS hi (by decide +kernel) rfl (Nat.le_of_ble_eq_true rfl) (fun Z e1 e2 e3 e4 C hr => by subst e1 e2 e3 e4; exact zM_ValueBenchModel_leads_w C p1 p2 s hr h)
set_option maxRecDepth 100000 in
set_option maxHeartbeats 4000000 in
theorem zM_ValueBenchModel_meet_L2_w {Z : zx_Z} (C : zx_ok zM_sd Z cX11_meet 5 RX11 2 44) {r : zx_S} (v1 : Int32) {k35 : zx_S → Option zx_S} (hr : zx_rV zM_sd Z cX11_meet 5 r) (h35 : ∀ (s1 : zx_S), k35 s1 = some r → zW zM_sd Z 5 35 [(0, .ref (zz_d Z 0)), (1, .int v1)] [] s1) : ∀ (n : Nat) (v2 : Int32) (s : zx_S), zM_ValueBenchModel_meet_L2 v1 k35 n v2 s = some r → zW zM_sd Z 5 2 [(0, .ref (zz_d Z 0)), (1, .int v1), (2, .int v2)] [] s := by
  intro n
  induction n with
  | zero => intro v2 s h; unfold zM_ValueBenchModel_meet_L2 at h; cases h
  | succ n ih =>
    intro v2 s h
    unfold zM_ValueBenchModel_meet_L2 at h
    refine zr_iload_n C dX11_meet_2 (q := 3) rfl 2 rfl rfl ?_
    refine zr_aload_n C dX11_meet_3 (q := 4) rfl 0 rfl rfl ?_
    refine zr_get C dX11_meet_4 (q := 7) zM_gX11_120_0 rfl ?_
    refine zr_icmp_ge (tgt := 35) (q := 10) C dX11_meet_7 h (by decide) rfl (fun h => ?_) (fun h => ?_)
    · skip
      exact zr_sub [0, 1] rfl (h35 s h)
    · skip
      refine zr_aload_n C dX11_meet_10 (q := 11) rfl 0 rfl rfl ?_
      refine zr_get C dX11_meet_11 (q := 14) zM_gX11_41_0 rfl ?_
      refine zr_iload_n C dX11_meet_14 (q := 15) rfl 2 rfl rfl ?_
      refine zr_iload_n C dX11_meet_15 (q := 16) rfl 2 rfl rfl ?_
      refine zr_if_ne (tgt := 27) (q := 19) C dX11_meet_16 h (by decide) rfl (fun h => ?_) (fun h => ?_)
      · skip
        refine zr_iconst C dX11_meet_27 (q := 28) (v := (0 : Int32)) (by decide) rfl ?_
        obtain ⟨hin_28, h⟩ := zx_ck_so h
        refine zr_zast C dX11_meet_28 (q := 29) zM_a11 hin_28 rfl ?_
        refine zr_ls h (fun s5 h => ?_)
        refine zr_iinc C dX11_meet_29 (q := 32) h (by decide) 2 rfl (by decide) (lw := fun v2_6 => [(2, .int v2_6), (0, .ref (zz_d Z 0)), (1, .int v1)]) (fun _ => rfl) rfl (fun v2_6 h => ?_)
        refine zr_goto (q := 2) C dX11_meet_32 (by decide) ?_
        exact zr_sub [1, 2, 0] rfl (ih v2_6 s5 h)
      · skip
        refine zr_iload_n C dX11_meet_19 (q := 20) rfl 1 rfl rfl ?_
        refine zr_if_eq (tgt := 27) (q := 23) C dX11_meet_20 h (by decide) rfl (fun h => ?_) (fun h => ?_)
        · skip
          refine zr_iconst C dX11_meet_27 (q := 28) (v := (0 : Int32)) (by decide) rfl ?_
          obtain ⟨hin_28, h⟩ := zx_ck_so h
          refine zr_zast C dX11_meet_28 (q := 29) zM_a11 hin_28 rfl ?_
          refine zr_ls h (fun s3 h => ?_)
          refine zr_iinc C dX11_meet_29 (q := 32) h (by decide) 2 rfl (by decide) (lw := fun v2_4 => [(2, .int v2_4), (0, .ref (zz_d Z 0)), (1, .int v1)]) (fun _ => rfl) rfl (fun v2_4 h => ?_)
          refine zr_goto (q := 2) C dX11_meet_32 (by decide) ?_
          exact zr_sub [1, 2, 0] rfl (ih v2_4 s3 h)
        · skip
          refine zr_iconst C dX11_meet_23 (q := 24) (v := (1 : Int32)) (by decide) rfl ?_
          refine zr_goto (q := 28) C dX11_meet_24 (by decide) ?_
          obtain ⟨hin_28, h⟩ := zx_ck_so h
          refine zr_zast C dX11_meet_28 (q := 29) zM_a11 hin_28 rfl ?_
          refine zr_ls h (fun s1 h => ?_)
          refine zr_iinc C dX11_meet_29 (q := 32) h (by decide) 2 rfl (by decide) (lw := fun v2_2 => [(2, .int v2_2), (0, .ref (zz_d Z 0)), (1, .int v1)]) (fun _ => rfl) rfl (fun v2_2 h => ?_)
          refine zr_goto (q := 2) C dX11_meet_32 (by decide) ?_
          exact zr_sub [1, 2, 0] rfl (ih v2_2 s1 h)
set_option maxRecDepth 100000 in
set_option maxHeartbeats 4000000 in
theorem zM_ValueBenchModel_meet_L56_w {Z : zx_Z} (C : zx_ok zM_sd Z cX11_meet 5 RX11 2 44) {r : zx_S} (v1 v3 : Int32) {k119 : Int32 → zx_S → Option zx_S} (hr : zx_rV zM_sd Z cX11_meet 5 r) (h119 : ∀ (a0 : Int32) (s1 : zx_S), k119 a0 s1 = some r → zW zM_sd Z 5 119 [(0, .ref (zz_d Z 0)), (1, .int v1), (2, .int a0), (3, .int v3)] [] s1) : ∀ (n : Nat) (v2 : Int32) (v4 : Int32) (s : zx_S), zM_ValueBenchModel_meet_L56 v1 v3 k119 n v2 v4 s = some r → zW zM_sd Z 5 56 [(0, .ref (zz_d Z 0)), (1, .int v1), (2, .int v2), (3, .int v3), (4, .int v4)] [] s := by
  intro n
  induction n with
  | zero => intro v2 v4 s h; unfold zM_ValueBenchModel_meet_L56 at h; cases h
  | succ n ih =>
    intro v2 v4 s h
    unfold zM_ValueBenchModel_meet_L56 at h
    refine zr_iload C dX11_meet_56 (q := 58) 4 rfl rfl ?_
    refine zr_aload_n C dX11_meet_58 (q := 59) rfl 0 rfl rfl ?_
    refine zr_get C dX11_meet_59 (q := 62) zM_gX11_120_0 rfl ?_
    refine zr_icmp_ge (tgt := 119) (q := 65) C dX11_meet_62 h (by decide) rfl (fun h => ?_) (fun h => ?_)
    · skip
      exact zr_sub [0, 1, 2, 3] rfl (h119 v2 s h)
    · skip
      refine zr_aload_n C dX11_meet_65 (q := 66) rfl 0 rfl rfl ?_
      refine zr_get C dX11_meet_66 (q := 69) zM_gX11_41_0 rfl ?_
      refine zr_iload_n C dX11_meet_69 (q := 70) rfl 3 rfl rfl ?_
      obtain ⟨hin_70, h⟩ := zx_ck_so h
      refine zr_zald C dX11_meet_70 (q := 71) zM_a11 hin_70 rfl ?_
      refine zr_if_eq (tgt := 113) (q := 74) C dX11_meet_71 h (by decide) rfl (fun h => ?_) (fun h => ?_)
      · skip
        refine zr_iinc C dX11_meet_113 (q := 116) h (by decide) 4 rfl (by decide) (lw := fun v4_14 => [(4, .int v4_14), (0, .ref (zz_d Z 0)), (1, .int v1), (2, .int v2), (3, .int v3)]) (fun _ => rfl) rfl (fun v4_14 h => ?_)
        refine zr_goto (q := 56) C dX11_meet_116 (by decide) ?_
        exact zr_sub [1, 2, 3, 4, 0] rfl (ih v2 v4_14 s h)
      · skip
        refine zr_aload_n C dX11_meet_74 (q := 75) rfl 0 rfl rfl ?_
        refine zr_get C dX11_meet_75 (q := 78) zM_gX11_41_0 rfl ?_
        refine zr_iload C dX11_meet_78 (q := 80) 4 rfl rfl ?_
        obtain ⟨hin_80, h⟩ := zx_ck_so h
        refine zr_zald C dX11_meet_80 (q := 81) zM_a11 hin_80 rfl ?_
        refine zr_if_ne (tgt := 113) (q := 84) C dX11_meet_81 h (by decide) rfl (fun h => ?_) (fun h => ?_)
        · skip
          refine zr_iinc C dX11_meet_113 (q := 116) h (by decide) 4 rfl (by decide) (lw := fun v4_13 => [(4, .int v4_13), (0, .ref (zz_d Z 0)), (1, .int v1), (2, .int v2), (3, .int v3)]) (fun _ => rfl) rfl (fun v4_13 h => ?_)
          refine zr_goto (q := 56) C dX11_meet_116 (by decide) ?_
          exact zr_sub [1, 2, 3, 4, 0] rfl (ih v2 v4_13 s h)
        · skip
          refine zr_iload C dX11_meet_84 (q := 86) 4 rfl rfl ?_
          refine zr_iload_n C dX11_meet_86 (q := 87) rfl 1 rfl rfl ?_
          refine zr_icmp_eq (tgt := 113) (q := 90) C dX11_meet_87 h (by decide) rfl (fun h => ?_) (fun h => ?_)
          · skip
            refine zr_iinc C dX11_meet_113 (q := 116) h (by decide) 4 rfl (by decide) (lw := fun v4_12 => [(4, .int v4_12), (0, .ref (zz_d Z 0)), (1, .int v1), (2, .int v2), (3, .int v3)]) (fun _ => rfl) rfl (fun v4_12 h => ?_)
            refine zr_goto (q := 56) C dX11_meet_116 (by decide) ?_
            exact zr_sub [1, 2, 3, 4, 0] rfl (ih v2 v4_12 s h)
          · skip
            refine zr_aload_n C dX11_meet_90 (q := 91) rfl 0 rfl rfl ?_
            refine zr_iload_n C dX11_meet_91 (q := 92) rfl 3 rfl rfl ?_
            refine zr_iload C dX11_meet_92 (q := 94) 4 rfl rfl ?_
            obtain ⟨r8, hc_94, h⟩ := zx_b1_so h
            refine zr_cvI (q := 97) C (As := [.int v3, .int v4]) (k := 0) (rest := []) dX11_meet_94 (zM_ValueBenchModel_leads_met C.2.2.2.2.1 C.2.2.2.1 hc_94) zM_vX11_141 zM_o0 ⟨by decide, by decide⟩ rfl (Nat.le_of_ble_eq_true rfl) rfl rfl ?_
            refine zr_if_ne (tgt := 103) (q := 100) C dX11_meet_97 h (by decide) rfl (fun h => ?_) (fun h => ?_)
            · skip
              refine zr_aload_n C dX11_meet_103 (q := 104) rfl 0 rfl rfl ?_
              refine zr_get C dX11_meet_104 (q := 107) zM_gX11_41_0 rfl ?_
              refine zr_iload C dX11_meet_107 (q := 109) 4 rfl rfl ?_
              refine zr_iconst C dX11_meet_109 (q := 110) (v := (1 : Int32)) (by decide) rfl ?_
              obtain ⟨hin_110, h⟩ := zx_ck_so h
              refine zr_zast C dX11_meet_110 (q := 111) zM_a11 hin_110 rfl ?_
              refine zr_ls h (fun s10 h => ?_)
              refine zr_iconst C dX11_meet_111 (q := 112) (v := (1 : Int32)) (by decide) rfl ?_
              refine zr_istore_n C dX11_meet_112 (q := 113) rfl (by decide) (lv' := [(2, .int (1 : Int32)), (0, .ref (zz_d Z 0)), (1, .int v1), (3, .int v3), (4, .int v4)]) rfl rfl ?_
              refine zr_iinc C dX11_meet_113 (q := 116) h (by decide) 4 rfl (by decide) (lw := fun v4_11 => [(4, .int v4_11), (2, .int (1 : Int32)), (0, .ref (zz_d Z 0)), (1, .int v1), (3, .int v3)]) (fun _ => rfl) rfl (fun v4_11 h => ?_)
              refine zr_goto (q := 56) C dX11_meet_116 (by decide) ?_
              exact zr_sub [2, 3, 1, 4, 0] rfl (ih (1 : Int32) v4_11 s10 h)
            · skip
              refine zr_goto (q := 113) C dX11_meet_100 (by decide) ?_
              refine zr_iinc C dX11_meet_113 (q := 116) h (by decide) 4 rfl (by decide) (lw := fun v4_9 => [(4, .int v4_9), (0, .ref (zz_d Z 0)), (1, .int v1), (2, .int v2), (3, .int v3)]) (fun _ => rfl) rfl (fun v4_9 h => ?_)
              refine zr_goto (q := 56) C dX11_meet_116 (by decide) ?_
              exact zr_sub [1, 2, 3, 4, 0] rfl (ih v2 v4_9 s h)
set_option maxRecDepth 100000 in
set_option maxHeartbeats 4000000 in
theorem zM_ValueBenchModel_meet_L45_w {Z : zx_Z} (C : zx_ok zM_sd Z cX11_meet 5 RX11 2 44) {r : zx_S} (v1 : Int32) {k125 : Int32 → zx_S → Option zx_S} (hr : zx_rV zM_sd Z cX11_meet 5 r) (h125 : ∀ (a0 : Int32) (s1 : zx_S), k125 a0 s1 = some r → zW zM_sd Z 5 125 [(0, .ref (zz_d Z 0)), (1, .int v1), (2, .int a0)] [] s1) : ∀ (n : Nat) (v2 : Int32) (v3 : Int32) (s : zx_S), zM_ValueBenchModel_meet_L45 v1 k125 n v2 v3 s = some r → zW zM_sd Z 5 45 [(0, .ref (zz_d Z 0)), (1, .int v1), (2, .int v2), (3, .int v3)] [] s := by
  intro n
  induction n with
  | zero => intro v2 v3 s h; unfold zM_ValueBenchModel_meet_L45 at h; cases h
  | succ n ih =>
    intro v2 v3 s h
    unfold zM_ValueBenchModel_meet_L45 at h
    refine zr_iload_n C dX11_meet_45 (q := 46) rfl 3 rfl rfl ?_
    refine zr_aload_n C dX11_meet_46 (q := 47) rfl 0 rfl rfl ?_
    refine zr_get C dX11_meet_47 (q := 50) zM_gX11_120_0 rfl ?_
    refine zr_icmp_ge (tgt := 125) (q := 53) C dX11_meet_50 h (by decide) rfl (fun h => ?_) (fun h => ?_)
    · skip
      exact zr_sub [0, 1, 2] rfl (h125 v2 s h)
    · skip
      refine zr_iconst C dX11_meet_53 (q := 54) (v := (0 : Int32)) (by decide) rfl ?_
      refine zr_istore C dX11_meet_54 (q := 56) (by decide) (lv' := [(4, .int (0 : Int32)), (0, .ref (zz_d Z 0)), (1, .int v1), (2, .int v2), (3, .int v3)]) rfl rfl ?_
      refine zr_sub [1, 2, 3, 4, 0] rfl (zM_ValueBenchModel_meet_L56_w C v1 v3 hr (fun v2_15 s16 h => ?_) 10000 v2 (0 : Int32) s h)
      · skip
        refine zr_iinc C dX11_meet_119 (q := 122) h (by decide) 3 rfl (by decide) (lw := fun v3_17 => [(3, .int v3_17), (0, .ref (zz_d Z 0)), (1, .int v1), (2, .int v2_15)]) (fun _ => rfl) rfl (fun v3_17 h => ?_)
        refine zr_goto (q := 45) C dX11_meet_122 (by decide) ?_
        exact zr_sub [1, 2, 3, 0] rfl (ih v2_15 v3_17 s16 h)
set_option maxRecDepth 100000 in
set_option maxHeartbeats 4000000 in
theorem zM_ValueBenchModel_meet_L37_w {Z : zx_Z} (C : zx_ok zM_sd Z cX11_meet 5 RX11 2 44) {r : zx_S} (v1 : Int32) {k128 : zx_S → Option zx_S} (hr : zx_rV zM_sd Z cX11_meet 5 r) (h128 : ∀ (s1 : zx_S), k128 s1 = some r → zW zM_sd Z 5 128 [] [] s1) : ∀ (n : Nat) (v2 : Int32) (s : zx_S), zM_ValueBenchModel_meet_L37 v1 k128 n v2 s = some r → zW zM_sd Z 5 37 [(0, .ref (zz_d Z 0)), (1, .int v1), (2, .int v2)] [] s := by
  intro n
  induction n with
  | zero => intro v2 s h; unfold zM_ValueBenchModel_meet_L37 at h; cases h
  | succ n ih =>
    intro v2 s h
    unfold zM_ValueBenchModel_meet_L37 at h
    refine zr_iload_n C dX11_meet_37 (q := 38) rfl 2 rfl rfl ?_
    refine zr_if_eq (tgt := 128) (q := 41) C dX11_meet_38 h (by decide) rfl (fun h => ?_) (fun h => ?_)
    · skip
      exact zr_sub [] rfl (h128 s h)
    · skip
      refine zr_iconst C dX11_meet_41 (q := 42) (v := (0 : Int32)) (by decide) rfl ?_
      refine zr_istore_n C dX11_meet_42 (q := 43) rfl (by decide) (lv' := [(2, .int (0 : Int32)), (0, .ref (zz_d Z 0)), (1, .int v1)]) rfl rfl ?_
      refine zr_iconst C dX11_meet_43 (q := 44) (v := (0 : Int32)) (by decide) rfl ?_
      refine zr_istore_n C dX11_meet_44 (q := 45) rfl (by decide) (lv' := [(3, .int (0 : Int32)), (2, .int (0 : Int32)), (0, .ref (zz_d Z 0)), (1, .int v1)]) rfl rfl ?_
      refine zr_sub [2, 3, 1, 0] rfl (zM_ValueBenchModel_meet_L45_w C v1 hr (fun v2_18 s19 h => ?_) 10000 (0 : Int32) (0 : Int32) s h)
      · skip
        refine zr_goto (q := 37) C dX11_meet_125 (by decide) ?_
        exact zr_sub [0, 1, 2] rfl (ih v2_18 s19 h)
set_option maxRecDepth 100000 in
set_option maxHeartbeats 4000000 in
theorem zM_ValueBenchModel_meet_w {Z : zx_Z} (C : zx_ok zM_sd Z cX11_meet 5 RX11 2 44) {r : zx_S} (p1 : Int32) (s : zx_S) (hr : zx_rV zM_sd Z cX11_meet 5 r) (h : zM_ValueBenchModel_meet p1 s = some r) : zW zM_sd Z 5 0 [(0, .ref (zz_d Z 0)), (1, .int p1)] [] s := by
  unfold zM_ValueBenchModel_meet at h
  refine zr_iconst C dX11_meet_0 (q := 1) (v := (0 : Int32)) (by decide) rfl ?_
  refine zr_istore_n C dX11_meet_1 (q := 2) rfl (by decide) (lv' := [(2, .int (0 : Int32)), (0, .ref (zz_d Z 0)), (1, .int p1)]) rfl rfl ?_
  refine zr_sub [1, 2, 0] rfl (zM_ValueBenchModel_meet_L2_w C p1 hr (fun s7 h => ?_) 10000 (0 : Int32) s h)
  · skip
    refine zr_iconst C dX11_meet_35 (q := 36) (v := (1 : Int32)) (by decide) rfl ?_
    refine zr_istore_n C dX11_meet_36 (q := 37) rfl (by decide) (lv' := [(2, .int (1 : Int32)), (0, .ref (zz_d Z 0)), (1, .int p1)]) rfl rfl ?_
    refine zr_sub [1, 2, 0] rfl (zM_ValueBenchModel_meet_L37_w C p1 hr (fun s20 h => ?_) 10000 (1 : Int32) s7 h)
    · skip
      exact zr_retV dX11_meet_128 h hr
theorem zM_ValueBenchModel_meet_met {l : Launch} {D : va_G} {cz : ClassId × ClassId} {ad : Nat → Nat} (hS : zx_So zM_sd) (hi : zx_I zM_sd ad) {p1 : Int32} {s : zx_S} {s1 : zx_S} (h : zM_ValueBenchModel_meet p1 s = some s1) : zx_MV zM_sd l D cz ad yX11_meet cX11_meet 5 2 44 [.ref (ad 0), .int p1] s s1 := zx_metV hS hi (by decide +kernel) rfl (Nat.le_of_ble_eq_true rfl) (fun Z e1 e2 e3 e4 C hr => by subst e1 e2 e3 e4; exact zM_ValueBenchModel_meet_w C p1 s hr h)
set_option maxRecDepth 100000 in
set_option maxHeartbeats 4000000 in
theorem zM_ValueBenchModel_dominates1_w {Z : zx_Z} (C : zx_ok zM_sd Z cX11_dominates1 3 RX11 0 0) {r : Int32} (p1 p2 : Int32) (s : zx_S) (hr : zx_rI zM_sd Z cX11_dominates1 3 .boolean r s) (h : zM_ValueBenchModel_dominates1 p1 p2 s = some r) : zW zM_sd Z 3 0 [(0, .ref (zz_d Z 0)), (1, .int p1), (2, .int p2)] [] s := by
  unfold zM_ValueBenchModel_dominates1 at h
  refine zr_aload_n C dX11_dominates1_0 (q := 1) rfl 0 rfl rfl ?_
  refine zr_get C dX11_dominates1_1 (q := 4) zM_gX11_44_0 rfl ?_
  refine zr_bipush C dX11_dominates1_4 (q := 6) (v := (16 : Int32)) (by decide) rfl ?_
  refine zr_iload_n C dX11_dominates1_6 (q := 7) rfl 1 rfl rfl ?_
  refine zr_imul C dX11_dominates1_7 (q := 8) rfl ?_
  refine zr_iload_n C dX11_dominates1_8 (q := 9) rfl 2 rfl rfl ?_
  refine zr_iadd C dX11_dominates1_9 (q := 10) rfl ?_
  obtain ⟨hin_10, h⟩ := zx_ck_so h
  refine zr_zald C dX11_dominates1_10 (q := 11) zM_a12 hin_10 rfl ?_
  obtain ⟨hb9, h⟩ := zx_zr_so h
  exact zr_retZR dX11_dominates1_11 hb9 h hr
theorem zM_ValueBenchModel_dominates1_met {l : Launch} {D : va_G} {cz : ClassId × ClassId} {ad : Nat → Nat} (hS : zx_So zM_sd) (hi : zx_I zM_sd ad) {p1 p2 : Int32} {s : zx_S} {v : Int32} (h : zM_ValueBenchModel_dominates1 p1 p2 s = some v) : zx_MI zM_sd l D cz ad yX11_dominates1 cX11_dominates1 3 .boolean 0 0 [.ref (ad 0), .int p1, .int p2] s v s := zx_metI hS hi (by decide +kernel) rfl (Nat.le_of_ble_eq_true rfl) (fun Z e1 e2 e3 e4 C hr => by subst e1 e2 e3 e4; exact zM_ValueBenchModel_dominates1_w C p1 p2 s hr h)
