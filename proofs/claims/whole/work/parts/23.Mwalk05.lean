set_option maxRecDepth 100000 in
set_option maxHeartbeats 4000000 in
theorem zM_ValueBenchModel_acts_J331_w {Z : zx_Z} (C : zx_ok zM_sd Z cX11_acts 8 RX11 4 94) {r : zx_S} (v4 v5 v6 t0 : Int32) (s : zx_S) (hr : zx_rV zM_sd Z cX11_acts 8 r) (h : zM_ValueBenchModel_acts_J331 v4 v5 v6 t0 s = some r) : zW zM_sd Z 8 331 [(0, .ref (zz_d Z 0)), (4, .int v4), (5, .int v5), (6, .int v6)] [.int t0] s := by
  unfold zM_ValueBenchModel_acts_J331 at h
  refine zr_istore C dX11_acts_331 (q := 333) (by decide) (lv' := [(7, .int t0), (0, .ref (zz_d Z 0)), (4, .int v4), (5, .int v5), (6, .int v6)]) rfl rfl ?_
  refine zr_aload_n C dX11_acts_333 (q := 334) rfl 1 rfl rfl ?_
  refine zr_get C dX11_acts_334 (q := 337) zM_gX11_111_0 rfl ?_
  refine zr_iload C dX11_acts_337 (q := 339) 3 rfl rfl ?_
  refine zr_aload_n C dX11_acts_339 (q := 340) rfl 1 rfl rfl ?_
  refine zr_get C dX11_acts_340 (q := 343) zM_gX11_7_0 rfl ?_
  refine zr_iload C dX11_acts_343 (q := 345) 2 rfl rfl ?_
  obtain ⟨hin_345, h⟩ := zx_ck_so h
  refine zr_iald C dX11_acts_345 (q := 346) zM_a1 hin_345 rfl ?_
  refine zr_aload_n C dX11_acts_346 (q := 347) rfl 1 rfl rfl ?_
  refine zr_get C dX11_acts_347 (q := 350) zM_gX11_111_0 rfl ?_
  refine zr_iload C dX11_acts_350 (q := 352) 4 rfl rfl ?_
  obtain ⟨hin_352, h⟩ := zx_ck_so h
  refine zr_iald C dX11_acts_352 (q := 353) zM_a33 hin_352 rfl ?_
  refine zr_aload_n C dX11_acts_353 (q := 354) rfl 1 rfl rfl ?_
  refine zr_get C dX11_acts_354 (q := 357) zM_gX11_111_0 rfl ?_
  refine zr_iload C dX11_acts_357 (q := 359) 0 rfl rfl ?_
  obtain ⟨hin_359, h⟩ := zx_ck_so h
  refine zr_iald C dX11_acts_359 (q := 360) zM_a33 hin_359 rfl ?_
  obtain ⟨r21, hc_360, h⟩ := zx_b1_so h
  refine zr_csI (q := 363) C (As := [.int (s 1 (v4).toNatClampNeg), .int (s 33 (v6).toNatClampNeg), .int (s 33 (t0).toNatClampNeg)]) (rest := [.int v5, .ref (zz_d Z 33)]) dX11_acts_360 (zM_ValueBenchModel_work_met C.2.2.2.2.1 C.2.2.2.1 hc_360) zM_sX11_251 ⟨by decide, by decide⟩ rfl (Nat.le_of_ble_eq_true rfl) rfl rfl ?_
  obtain ⟨hin_363, h⟩ := zx_ck_so h
  refine zr_iast C dX11_acts_363 (q := 364) zM_a33 hin_363 rfl ?_
  refine zr_ls h (fun s22 h => ?_)
  exact zr_retV dX11_acts_364 h hr
set_option maxRecDepth 100000 in
set_option maxHeartbeats 4000000 in
theorem zM_ValueBenchModel_acts_J302_w {Z : zx_Z} (C : zx_ok zM_sd Z cX11_acts 8 RX11 4 94) {r : zx_S} (v1 v4 v5 t0 : Int32) (s : zx_S) (hr : zx_rV zM_sd Z cX11_acts 8 r) (h : zM_ValueBenchModel_acts_J302 v1 v4 v5 t0 s = some r) : zW zM_sd Z 8 302 [(0, .ref (zz_d Z 0)), (1, .int v1), (4, .int v4), (5, .int v5)] [.int t0] s := by
  unfold zM_ValueBenchModel_acts_J302 at h
  refine zr_istore C dX11_acts_302 (q := 304) (by decide) (lv' := [(6, .int t0), (0, .ref (zz_d Z 0)), (1, .int v1), (4, .int v4), (5, .int v5)]) rfl rfl ?_
  refine zr_iload_n C dX11_acts_304 (q := 305) rfl 2 rfl rfl ?_
  refine zr_iconst C dX11_acts_305 (q := 306) (v := (1 : Int32)) (by decide) rfl ?_
  refine zr_icmp_ne (tgt := 324) (q := 309) C dX11_acts_306 h (by decide) rfl (fun h => ?_) (fun h => ?_)
  · skip
    refine zr_aload_n C dX11_acts_324 (q := 325) rfl 1 rfl rfl ?_
    refine zr_iload C dX11_acts_325 (q := 327) 4 rfl rfl ?_
    refine zr_iconst C dX11_acts_327 (q := 328) (v := (1 : Int32)) (by decide) rfl ?_
    obtain ⟨r23, hc_328, h⟩ := zx_b1_so h
    refine zr_cvI (q := 331) C (As := [.int v5, .int (1 : Int32)]) (k := 0) (rest := []) dX11_acts_328 (zM_ValueBenchModel_ledOperand_met C.2.2.2.2.1 C.2.2.2.1 hc_328) zM_vX11_245 zM_o0 ⟨by decide, by decide⟩ rfl (Nat.le_of_ble_eq_true rfl) rfl rfl ?_
    exact zr_sub [1, 3, 4, 0] rfl (zM_ValueBenchModel_acts_J331_w C v4 v5 t0 r23 s hr h)
  · skip
    refine zr_aload_n C dX11_acts_309 (q := 310) rfl 1 rfl rfl ?_
    refine zr_get C dX11_acts_310 (q := 313) zM_gX11_71_0 rfl ?_
    refine zr_bipush C dX11_acts_313 (q := 315) (v := (20 : Int32)) (by decide) rfl ?_
    refine zr_iload C dX11_acts_315 (q := 317) 4 rfl rfl ?_
    refine zr_imul C dX11_acts_317 (q := 318) rfl ?_
    refine zr_iconst C dX11_acts_318 (q := 319) (v := (1 : Int32)) (by decide) rfl ?_
    refine zr_iadd C dX11_acts_319 (q := 320) rfl ?_
    obtain ⟨hin_320, h⟩ := zx_ck_so h
    refine zr_iald C dX11_acts_320 (q := 321) zM_a21 hin_320 rfl ?_
    refine zr_goto (q := 331) C dX11_acts_321 (by decide) ?_
    exact zr_sub [1, 3, 4, 0] rfl (zM_ValueBenchModel_acts_J331_w C v4 v5 t0 (s 21 ((((20 : Int32) * v5) + (1 : Int32))).toNatClampNeg) s hr h)
set_option maxRecDepth 100000 in
set_option maxHeartbeats 4000000 in
theorem zM_ValueBenchModel_acts_w {Z : zx_Z} (C : zx_ok zM_sd Z cX11_acts 8 RX11 4 94) {r : zx_S} (p1 p2 p3 : Int32) (s : zx_S) (hr : zx_rV zM_sd Z cX11_acts 8 r) (h : zM_ValueBenchModel_acts p1 p2 p3 s = some r) : zW zM_sd Z 8 0 [(0, .ref (zz_d Z 0)), (1, .int p1), (2, .int p2), (3, .int p3)] [] s := by
  unfold zM_ValueBenchModel_acts at h
  refine zr_bipush C dX11_acts_0 (q := 2) (v := (100 : Int32)) (by decide) rfl ?_
  refine zr_iload_n C dX11_acts_2 (q := 3) rfl 2 rfl rfl ?_
  refine zr_imul C dX11_acts_3 (q := 4) rfl ?_
  refine zr_iload_n C dX11_acts_4 (q := 5) rfl 3 rfl rfl ?_
  refine zr_iadd C dX11_acts_5 (q := 6) rfl ?_
  refine zr_top h (fun v4_1 h => ?_)
  refine zr_istore C dX11_acts_6 (q := 8) (by decide) (lv' := [(4, .int v4_1), (0, .ref (zz_d Z 0)), (1, .int p1), (2, .int p2), (3, .int p3)]) rfl rfl ?_
  refine zr_iload_n C dX11_acts_8 (q := 9) rfl 2 rfl rfl ?_
  refine zr_if_ne (tgt := 162) (q := 12) C dX11_acts_9 h (by decide) rfl (fun h => ?_) (fun h => ?_)
  · skip
    refine zr_aload_n C dX11_acts_162 (q := 163) rfl 1 rfl rfl ?_
    refine zr_get C dX11_acts_163 (q := 166) zM_gX11_7_0 rfl ?_
    refine zr_iload C dX11_acts_166 (q := 168) 0 rfl rfl ?_
    obtain ⟨hin_168, h⟩ := zx_ck_so h
    refine zr_iald C dX11_acts_168 (q := 169) zM_a1 hin_168 rfl ?_
    refine zr_bipush C dX11_acts_169 (q := 171) (v := (14 : Int32)) (by decide) rfl ?_
    refine zr_icmp_ne (tgt := 217) (q := 174) C dX11_acts_171 h (by decide) rfl (fun h => ?_) (fun h => ?_)
    · skip
      refine zr_aload_n C dX11_acts_217 (q := 218) rfl 1 rfl rfl ?_
      refine zr_get C dX11_acts_218 (q := 221) zM_gX11_80_0 rfl ?_
      refine zr_iload C dX11_acts_221 (q := 223) 0 rfl rfl ?_
      obtain ⟨hin_223, h⟩ := zx_ck_so h
      refine zr_iald C dX11_acts_223 (q := 224) zM_a24 hin_223 rfl ?_
      refine zr_top h (fun v5_16 h => ?_)
      refine zr_istore C dX11_acts_224 (q := 226) (by decide) (lv' := [(5, .int v5_16), (4, .int v4_1), (0, .ref (zz_d Z 0)), (1, .int p1), (2, .int p2), (3, .int p3)]) rfl rfl ?_
      refine zr_aload_n C dX11_acts_226 (q := 227) rfl 2 rfl rfl ?_
      refine zr_get C dX11_acts_227 (q := 230) zM_gX11_7_0 rfl ?_
      refine zr_iload C dX11_acts_230 (q := 232) 1 rfl rfl ?_
      obtain ⟨hin_232, h⟩ := zx_ck_so h
      refine zr_iald C dX11_acts_232 (q := 233) zM_a1 hin_232 rfl ?_
      refine zr_iconst C dX11_acts_233 (q := 234) (v := (2 : Int32)) (by decide) rfl ?_
      refine zr_icmp_ge (tgt := 277) (q := 237) C dX11_acts_234 h (by decide) rfl (fun h => ?_) (fun h => ?_)
      · skip
        refine zr_iload_n C dX11_acts_277 (q := 278) rfl 3 rfl rfl ?_
        refine zr_iconst C dX11_acts_278 (q := 279) (v := (1 : Int32)) (by decide) rfl ?_
        refine zr_icmp_ne (tgt := 295) (q := 282) C dX11_acts_279 h (by decide) rfl (fun h => ?_) (fun h => ?_)
        · skip
          refine zr_aload_n C dX11_acts_295 (q := 296) rfl 2 rfl rfl ?_
          refine zr_iload C dX11_acts_296 (q := 298) 0 rfl rfl ?_
          refine zr_iconst C dX11_acts_298 (q := 299) (v := (0 : Int32)) (by decide) rfl ?_
          obtain ⟨r24, hc_299, h⟩ := zx_b1_so h
          refine zr_cvI (q := 302) C (As := [.int v5_16, .int (0 : Int32)]) (k := 0) (rest := []) dX11_acts_299 (zM_ValueBenchModel_ledOperand_met C.2.2.2.2.1 C.2.2.2.1 hc_299) zM_vX11_245 zM_o0 ⟨by decide, by decide⟩ rfl (Nat.le_of_ble_eq_true rfl) rfl rfl ?_
          exact zr_sub [2, 3, 1, 0] rfl (zM_ValueBenchModel_acts_J302_w C p1 v4_1 v5_16 r24 s hr h)
        · skip
          refine zr_aload_n C dX11_acts_282 (q := 283) rfl 2 rfl rfl ?_
          refine zr_get C dX11_acts_283 (q := 286) zM_gX11_71_0 rfl ?_
          refine zr_bipush C dX11_acts_286 (q := 288) (v := (20 : Int32)) (by decide) rfl ?_
          refine zr_iload C dX11_acts_288 (q := 290) 0 rfl rfl ?_
          refine zr_imul C dX11_acts_290 (q := 291) rfl ?_
          obtain ⟨hin_291, h⟩ := zx_ck_so h
          refine zr_iald C dX11_acts_291 (q := 292) zM_a21 hin_291 rfl ?_
          refine zr_goto (q := 302) C dX11_acts_292 (by decide) ?_
          exact zr_sub [2, 3, 1, 0] rfl (zM_ValueBenchModel_acts_J302_w C p1 v4_1 v5_16 (s 21 (((20 : Int32) * v5_16)).toNatClampNeg) s hr h)
      · skip
        refine zr_aload_n C dX11_acts_237 (q := 238) rfl 2 rfl rfl ?_
        refine zr_get C dX11_acts_238 (q := 241) zM_gX11_111_0 rfl ?_
        refine zr_iload C dX11_acts_241 (q := 243) 0 rfl rfl ?_
        refine zr_aload_n C dX11_acts_243 (q := 244) rfl 2 rfl rfl ?_
        refine zr_get C dX11_acts_244 (q := 247) zM_gX11_7_0 rfl ?_
        refine zr_iload C dX11_acts_247 (q := 249) 1 rfl rfl ?_
        obtain ⟨hin_249, h⟩ := zx_ck_so h
        refine zr_iald C dX11_acts_249 (q := 250) zM_a1 hin_249 rfl ?_
        refine zr_if_ne (tgt := 263) (q := 253) C dX11_acts_250 h (by decide) rfl (fun h => ?_) (fun h => ?_)
        · skip
          refine zr_aload_n C dX11_acts_263 (q := 264) rfl 2 rfl rfl ?_
          refine zr_get C dX11_acts_264 (q := 267) zM_gX11_117_0 rfl ?_
          refine zr_aload_n C dX11_acts_267 (q := 268) rfl 2 rfl rfl ?_
          refine zr_get C dX11_acts_268 (q := 271) zM_gX11_16_0 rfl ?_
          refine zr_iload C dX11_acts_271 (q := 273) 1 rfl rfl ?_
          obtain ⟨hin_273, h⟩ := zx_ck_so h
          refine zr_iald C dX11_acts_273 (q := 274) zM_a3 hin_273 rfl ?_
          obtain ⟨hin_274, h⟩ := zx_ck_so h
          refine zr_iald C dX11_acts_274 (q := 275) zM_a35 hin_274 rfl ?_
          refine zr_top h (fun x19 h => ?_)
          obtain ⟨hin_275, h⟩ := zx_ck_so h
          refine zr_iast C dX11_acts_275 (q := 276) zM_a33 hin_275 rfl ?_
          refine zr_ls h (fun s20 h => ?_)
          exact zr_retV dX11_acts_276 h hr
        · skip
          refine zr_aload_n C dX11_acts_253 (q := 254) rfl 2 rfl rfl ?_
          refine zr_get C dX11_acts_254 (q := 257) zM_gX11_16_0 rfl ?_
          refine zr_iload C dX11_acts_257 (q := 259) 1 rfl rfl ?_
          obtain ⟨hin_259, h⟩ := zx_ck_so h
          refine zr_iald C dX11_acts_259 (q := 260) zM_a3 hin_259 rfl ?_
          refine zr_goto (q := 275) C dX11_acts_260 (by decide) ?_
          refine zr_top h (fun x17 h => ?_)
          obtain ⟨hin_275, h⟩ := zx_ck_so h
          refine zr_iast C dX11_acts_275 (q := 276) zM_a33 hin_275 rfl ?_
          refine zr_ls h (fun s18 h => ?_)
          exact zr_retV dX11_acts_276 h hr
    · skip
      refine zr_aload_n C dX11_acts_174 (q := 175) rfl 1 rfl rfl ?_
      refine zr_iload_n C dX11_acts_175 (q := 176) rfl 3 rfl rfl ?_
      refine zr_iload_n C dX11_acts_176 (q := 177) rfl 4 rfl rfl ?_
      refine zr_aload_n C dX11_acts_177 (q := 178) rfl 1 rfl rfl ?_
      refine zr_get C dX11_acts_178 (q := 181) zM_gX11_13_0 rfl ?_
      refine zr_iload C dX11_acts_181 (q := 183) 0 rfl rfl ?_
      obtain ⟨hin_183, h⟩ := zx_ck_so h
      refine zr_iald C dX11_acts_183 (q := 184) zM_a2 hin_183 rfl ?_
      obtain ⟨r11, s12, hc_184, h⟩ := zx_b2_so h
      refine zr_cvI (q := 187) C (As := [.int p2, .int p3, .int (s 2 (v4_1).toNatClampNeg)]) (k := 0) (rest := []) dX11_acts_184 (zM_ValueBenchModel_readAt_met C.2.2.2.2.1 C.2.2.2.1 hc_184) zM_vX11_254 zM_o0 ⟨by decide, by decide⟩ rfl (Nat.le_of_ble_eq_true rfl) rfl rfl ?_
      refine zr_istore C dX11_acts_187 (q := 189) (by decide) (lv' := [(5, .int r11), (4, .int v4_1), (0, .ref (zz_d Z 0)), (1, .int p1), (2, .int p2), (3, .int p3)]) rfl rfl ?_
      refine zr_aload_n C dX11_acts_189 (q := 190) rfl 2 rfl rfl ?_
      refine zr_aload_n C dX11_acts_190 (q := 191) rfl 2 rfl rfl ?_
      refine zr_get C dX11_acts_191 (q := 194) zM_gX11_111_0 rfl ?_
      refine zr_iload_n C dX11_acts_194 (q := 195) rfl 3 rfl rfl ?_
      refine zr_iconst C dX11_acts_195 (q := 196) (v := (1 : Int32)) (by decide) rfl ?_
      refine zr_icmp_ne (tgt := 204) (q := 199) C dX11_acts_196 h (by decide) rfl (fun h => ?_) (fun h => ?_)
      · skip
        refine zr_aload_n C dX11_acts_204 (q := 205) rfl 2 rfl rfl ?_
        refine zr_iload C dX11_acts_205 (q := 207) 0 rfl rfl ?_
        refine zr_iload_n C dX11_acts_207 (q := 208) rfl 4 rfl rfl ?_
        refine zr_iload_n C dX11_acts_208 (q := 209) rfl 5 rfl rfl ?_
        obtain ⟨r14, hc_209, h⟩ := zx_b1_so h
        refine zr_cvI (q := 212) C (As := [.int r11, .int p2, .int p3]) (k := 0) (rest := [.ref (zz_d Z 33), .ref (zz_d Z 0)]) dX11_acts_209 (zM_ValueBenchModel_leader_met C.2.2.2.2.1 C.2.2.2.1 hc_209) zM_vX11_201 zM_o0 ⟨by decide, by decide⟩ rfl (Nat.le_of_ble_eq_true rfl) rfl rfl ?_
        obtain ⟨hin_212, h⟩ := zx_ck_so h
        refine zr_iald C dX11_acts_212 (q := 213) zM_a33 hin_212 rfl ?_
        obtain ⟨s15, hc_213, h⟩ := zx_b1_so h
        refine zr_cvV (q := 216) C (As := [.int (s12 33 (r14).toNatClampNeg)]) (k := 0) (rest := []) dX11_acts_213 (zM_ValueBenchModel_emit_met C.2.2.2.2.1 C.2.2.2.1 hc_213) zM_vX11_248 zM_o0 ⟨by decide, by decide⟩ rfl (Nat.le_of_ble_eq_true rfl) rfl rfl ?_
        exact zr_retV dX11_acts_216 h hr
      · skip
        refine zr_iload C dX11_acts_199 (q := 201) 0 rfl rfl ?_
        refine zr_goto (q := 212) C dX11_acts_201 (by decide) ?_
        obtain ⟨hin_212, h⟩ := zx_ck_so h
        refine zr_iald C dX11_acts_212 (q := 213) zM_a33 hin_212 rfl ?_
        obtain ⟨s13, hc_213, h⟩ := zx_b1_so h
        refine zr_cvV (q := 216) C (As := [.int (s12 33 (r11).toNatClampNeg)]) (k := 0) (rest := []) dX11_acts_213 (zM_ValueBenchModel_emit_met C.2.2.2.2.1 C.2.2.2.1 hc_213) zM_vX11_248 zM_o0 ⟨by decide, by decide⟩ rfl (Nat.le_of_ble_eq_true rfl) rfl rfl ?_
        exact zr_retV dX11_acts_216 h hr
  · skip
    refine zr_aload_n C dX11_acts_12 (q := 13) rfl 1 rfl rfl ?_
    refine zr_get C dX11_acts_13 (q := 16) zM_gX11_7_0 rfl ?_
    refine zr_iload C dX11_acts_16 (q := 18) 0 rfl rfl ?_
    obtain ⟨hin_18, h⟩ := zx_ck_so h
    refine zr_iald C dX11_acts_18 (q := 19) zM_a1 hin_18 rfl ?_
    refine zr_bipush C dX11_acts_19 (q := 21) (v := (14 : Int32)) (by decide) rfl ?_
    refine zr_icmp_ne (tgt := 43) (q := 24) C dX11_acts_21 h (by decide) rfl (fun h => ?_) (fun h => ?_)
    · skip
      refine zr_aload_n C dX11_acts_43 (q := 44) rfl 1 rfl rfl ?_
      refine zr_get C dX11_acts_44 (q := 47) zM_gX11_108_0 rfl ?_
      refine zr_aload_n C dX11_acts_47 (q := 48) rfl 1 rfl rfl ?_
      refine zr_get C dX11_acts_48 (q := 51) zM_gX11_13_0 rfl ?_
      refine zr_iload C dX11_acts_51 (q := 53) 0 rfl rfl ?_
      obtain ⟨hin_53, h⟩ := zx_ck_so h
      refine zr_iald C dX11_acts_53 (q := 54) zM_a2 hin_53 rfl ?_
      refine zr_aload_n C dX11_acts_54 (q := 55) rfl 1 rfl rfl ?_
      refine zr_get C dX11_acts_55 (q := 58) zM_gX11_7_0 rfl ?_
      refine zr_iload C dX11_acts_58 (q := 60) 0 rfl rfl ?_
      obtain ⟨hin_60, h⟩ := zx_ck_so h
      refine zr_iald C dX11_acts_60 (q := 61) zM_a1 hin_60 rfl ?_
      refine zr_if_ne (tgt := 74) (q := 64) C dX11_acts_61 h (by decide) rfl (fun h => ?_) (fun h => ?_)
      · skip
        refine zr_aload_n C dX11_acts_74 (q := 75) rfl 1 rfl rfl ?_
        refine zr_get C dX11_acts_75 (q := 78) zM_gX11_7_0 rfl ?_
        refine zr_iload C dX11_acts_78 (q := 80) 0 rfl rfl ?_
        obtain ⟨hin_80, h⟩ := zx_ck_so h
        refine zr_iald C dX11_acts_80 (q := 81) zM_a1 hin_80 rfl ?_
        refine zr_iconst C dX11_acts_81 (q := 82) (v := (1 : Int32)) (by decide) rfl ?_
        refine zr_icmp_ne (tgt := 100) (q := 85) C dX11_acts_82 h (by decide) rfl (fun h => ?_) (fun h => ?_)
        · skip
          refine zr_aload_n C dX11_acts_100 (q := 101) rfl 1 rfl rfl ?_
          refine zr_get C dX11_acts_101 (q := 104) zM_gX11_7_0 rfl ?_
          refine zr_iload C dX11_acts_104 (q := 106) 0 rfl rfl ?_
          obtain ⟨hin_106, h⟩ := zx_ck_so h
          refine zr_iald C dX11_acts_106 (q := 107) zM_a1 hin_106 rfl ?_
          refine zr_iconst C dX11_acts_107 (q := 108) (v := (2 : Int32)) (by decide) rfl ?_
          refine zr_icmp_ne (tgt := 126) (q := 111) C dX11_acts_108 h (by decide) rfl (fun h => ?_) (fun h => ?_)
          · skip
            refine zr_aload_n C dX11_acts_126 (q := 127) rfl 1 rfl rfl ?_
            refine zr_get C dX11_acts_127 (q := 130) zM_gX11_7_0 rfl ?_
            refine zr_iload C dX11_acts_130 (q := 132) 0 rfl rfl ?_
            obtain ⟨hin_132, h⟩ := zx_ck_so h
            refine zr_iald C dX11_acts_132 (q := 133) zM_a1 hin_132 rfl ?_
            refine zr_aload_n C dX11_acts_133 (q := 134) rfl 1 rfl rfl ?_
            refine zr_get C dX11_acts_134 (q := 137) zM_gX11_108_0 rfl ?_
            refine zr_aload_n C dX11_acts_137 (q := 138) rfl 1 rfl rfl ?_
            refine zr_get C dX11_acts_138 (q := 141) zM_gX11_16_0 rfl ?_
            refine zr_iload C dX11_acts_141 (q := 143) 0 rfl rfl ?_
            obtain ⟨hin_143, h⟩ := zx_ck_so h
            refine zr_iald C dX11_acts_143 (q := 144) zM_a3 hin_143 rfl ?_
            obtain ⟨hin_144, h⟩ := zx_ck_so h
            refine zr_iald C dX11_acts_144 (q := 145) zM_a32 hin_144 rfl ?_
            refine zr_aload_n C dX11_acts_145 (q := 146) rfl 1 rfl rfl ?_
            refine zr_get C dX11_acts_146 (q := 149) zM_gX11_108_0 rfl ?_
            refine zr_aload_n C dX11_acts_149 (q := 150) rfl 1 rfl rfl ?_
            refine zr_get C dX11_acts_150 (q := 153) zM_gX11_19_0 rfl ?_
            refine zr_iload C dX11_acts_153 (q := 155) 0 rfl rfl ?_
            obtain ⟨hin_155, h⟩ := zx_ck_so h
            refine zr_iald C dX11_acts_155 (q := 156) zM_a4 hin_155 rfl ?_
            obtain ⟨hin_156, h⟩ := zx_ck_so h
            refine zr_iald C dX11_acts_156 (q := 157) zM_a32 hin_156 rfl ?_
            obtain ⟨r9, hc_157, h⟩ := zx_b1_so h
            refine zr_csI (q := 160) C (As := [.int (s 1 (v4_1).toNatClampNeg), .int (s 32 ((s 3 (v4_1).toNatClampNeg)).toNatClampNeg), .int (s 32 ((s 4 (v4_1).toNatClampNeg)).toNatClampNeg)]) (rest := [.int (s 2 (v4_1).toNatClampNeg), .ref (zz_d Z 32)]) dX11_acts_157 (zM_ValueBenchModel_work_met C.2.2.2.2.1 C.2.2.2.1 hc_157) zM_sX11_251 ⟨by decide, by decide⟩ rfl (Nat.le_of_ble_eq_true rfl) rfl rfl ?_
            obtain ⟨hin_160, h⟩ := zx_ck_so h
            refine zr_iast C dX11_acts_160 (q := 161) zM_a32 hin_160 rfl ?_
            refine zr_ls h (fun s10 h => ?_)
            exact zr_retV dX11_acts_161 h hr
          · skip
            refine zr_aload_n C dX11_acts_111 (q := 112) rfl 1 rfl rfl ?_
            refine zr_get C dX11_acts_112 (q := 115) zM_gX11_108_0 rfl ?_
            refine zr_aload_n C dX11_acts_115 (q := 116) rfl 1 rfl rfl ?_
            refine zr_get C dX11_acts_116 (q := 119) zM_gX11_16_0 rfl ?_
            refine zr_iload C dX11_acts_119 (q := 121) 0 rfl rfl ?_
            obtain ⟨hin_121, h⟩ := zx_ck_so h
            refine zr_iald C dX11_acts_121 (q := 122) zM_a3 hin_121 rfl ?_
            obtain ⟨hin_122, h⟩ := zx_ck_so h
            refine zr_iald C dX11_acts_122 (q := 123) zM_a32 hin_122 rfl ?_
            refine zr_goto (q := 160) C dX11_acts_123 (by decide) ?_
            refine zr_top h (fun x7 h => ?_)
            obtain ⟨hin_160, h⟩ := zx_ck_so h
            refine zr_iast C dX11_acts_160 (q := 161) zM_a32 hin_160 rfl ?_
            refine zr_ls h (fun s8 h => ?_)
            exact zr_retV dX11_acts_161 h hr
        · skip
          refine zr_aload_n C dX11_acts_85 (q := 86) rfl 1 rfl rfl ?_
          refine zr_get C dX11_acts_86 (q := 89) zM_gX11_117_0 rfl ?_
          refine zr_aload_n C dX11_acts_89 (q := 90) rfl 1 rfl rfl ?_
          refine zr_get C dX11_acts_90 (q := 93) zM_gX11_16_0 rfl ?_
          refine zr_iload C dX11_acts_93 (q := 95) 0 rfl rfl ?_
          obtain ⟨hin_95, h⟩ := zx_ck_so h
          refine zr_iald C dX11_acts_95 (q := 96) zM_a3 hin_95 rfl ?_
          obtain ⟨hin_96, h⟩ := zx_ck_so h
          refine zr_iald C dX11_acts_96 (q := 97) zM_a35 hin_96 rfl ?_
          refine zr_goto (q := 160) C dX11_acts_97 (by decide) ?_
          refine zr_top h (fun x5 h => ?_)
          obtain ⟨hin_160, h⟩ := zx_ck_so h
          refine zr_iast C dX11_acts_160 (q := 161) zM_a32 hin_160 rfl ?_
          refine zr_ls h (fun s6 h => ?_)
          exact zr_retV dX11_acts_161 h hr
      · skip
        refine zr_aload_n C dX11_acts_64 (q := 65) rfl 1 rfl rfl ?_
        refine zr_get C dX11_acts_65 (q := 68) zM_gX11_16_0 rfl ?_
        refine zr_iload C dX11_acts_68 (q := 70) 0 rfl rfl ?_
        obtain ⟨hin_70, h⟩ := zx_ck_so h
        refine zr_iald C dX11_acts_70 (q := 71) zM_a3 hin_70 rfl ?_
        refine zr_goto (q := 160) C dX11_acts_71 (by decide) ?_
        refine zr_top h (fun x3 h => ?_)
        obtain ⟨hin_160, h⟩ := zx_ck_so h
        refine zr_iast C dX11_acts_160 (q := 161) zM_a32 hin_160 rfl ?_
        refine zr_ls h (fun s4 h => ?_)
        exact zr_retV dX11_acts_161 h hr
    · skip
      refine zr_aload_n C dX11_acts_24 (q := 25) rfl 1 rfl rfl ?_
      refine zr_aload_n C dX11_acts_25 (q := 26) rfl 1 rfl rfl ?_
      refine zr_get C dX11_acts_26 (q := 29) zM_gX11_108_0 rfl ?_
      refine zr_aload_n C dX11_acts_29 (q := 30) rfl 1 rfl rfl ?_
      refine zr_get C dX11_acts_30 (q := 33) zM_gX11_13_0 rfl ?_
      refine zr_iload C dX11_acts_33 (q := 35) 0 rfl rfl ?_
      obtain ⟨hin_35, h⟩ := zx_ck_so h
      refine zr_iald C dX11_acts_35 (q := 36) zM_a2 hin_35 rfl ?_
      obtain ⟨hin_36, h⟩ := zx_ck_so h
      refine zr_iald C dX11_acts_36 (q := 37) zM_a32 hin_36 rfl ?_
      obtain ⟨s2, hc_37, h⟩ := zx_b1_so h
      refine zr_cvV (q := 40) C (As := [.int (s 32 ((s 2 (v4_1).toNatClampNeg)).toNatClampNeg)]) (k := 0) (rest := []) dX11_acts_37 (zM_ValueBenchModel_emit_met C.2.2.2.2.1 C.2.2.2.1 hc_37) zM_vX11_248 zM_o0 ⟨by decide, by decide⟩ rfl (Nat.le_of_ble_eq_true rfl) rfl rfl ?_
      refine zr_goto (q := 161) C dX11_acts_40 (by decide) ?_
      exact zr_retV dX11_acts_161 h hr
theorem zM_ValueBenchModel_acts_met {l : Launch} {D : va_G} {cz : ClassId × ClassId} {ad : Nat → Nat} (hS : zx_So zM_sd) (hi : zx_I zM_sd ad) {p1 p2 p3 : Int32} {s : zx_S} {s1 : zx_S} (h : zM_ValueBenchModel_acts p1 p2 p3 s = some s1) : zx_MV zM_sd l D cz ad yX11_acts cX11_acts 8 4 94 [.ref (ad 0), .int p1, .int p2, .int p3] s s1 := zx_metV hS hi (by decide +kernel) rfl (Nat.le_of_ble_eq_true rfl) (fun Z e1 e2 e3 e4 C hr => by subst e1 e2 e3 e4; exact zM_ValueBenchModel_acts_w C p1 p2 p3 s hr h)
set_option maxRecDepth 100000 in
set_option maxHeartbeats 4000000 in
theorem zM_ValueBenchModel_yOf_w {Z : zx_Z} (C : zx_ok zM_sd Z cX11_yOf 2 RX11 1 21) {r : Int32} (p1 : Int32) (s : zx_S) (hr : zx_rI zM_sd Z cX11_yOf 2 .int r s) (h : zM_ValueBenchModel_yOf p1 s = some r) : zW zM_sd Z 2 0 [(0, .ref (zz_d Z 0)), (1, .int p1)] [] s := by
  unfold zM_ValueBenchModel_yOf at h
  refine zr_aload_n C dX11_yOf_0 (q := 1) rfl 0 rfl rfl ?_
  refine zr_iload_n C dX11_yOf_1 (q := 2) rfl 1 rfl rfl ?_
  obtain ⟨r1, hc_2, h⟩ := zx_b1_so h
  refine zr_cvI (q := 5) C (As := [.int p1]) (k := 0) (rest := []) dX11_yOf_2 (zM_ValueBenchModel_howOf_met C.2.2.2.2.1 C.2.2.2.1 hc_2) zM_vX11_137 zM_o0 ⟨by decide, by decide⟩ rfl (Nat.le_of_ble_eq_true rfl) rfl rfl ?_
  refine zr_aload_n C dX11_yOf_5 (q := 6) rfl 0 rfl rfl ?_
  refine zr_get C dX11_yOf_6 (q := 9) zM_gX11_25_0 rfl ?_
  refine zr_iload_n C dX11_yOf_9 (q := 10) rfl 1 rfl rfl ?_
  obtain ⟨hin_10, h⟩ := zx_ck_so h
  refine zr_iald C dX11_yOf_10 (q := 11) zM_a6 hin_10 rfl ?_
  refine zr_icmp_ne (tgt := 23) (q := 14) C dX11_yOf_11 h (by decide) rfl (fun h => ?_) (fun h => ?_)
  · skip
    refine zr_iconst C dX11_yOf_23 (q := 24) (v := (0 : Int32)) (by decide) rfl ?_
    exact zr_retR dX11_yOf_24 h hr
  · skip
    refine zr_aload_n C dX11_yOf_14 (q := 15) rfl 0 rfl rfl ?_
    refine zr_get C dX11_yOf_15 (q := 18) zM_gX11_28_0 rfl ?_
    refine zr_iload_n C dX11_yOf_18 (q := 19) rfl 1 rfl rfl ?_
    obtain ⟨hin_19, h⟩ := zx_ck_so h
    refine zr_iald C dX11_yOf_19 (q := 20) zM_a7 hin_19 rfl ?_
    refine zr_goto (q := 24) C dX11_yOf_20 (by decide) ?_
    exact zr_retR dX11_yOf_24 h hr
theorem zM_ValueBenchModel_yOf_met {l : Launch} {D : va_G} {cz : ClassId × ClassId} {ad : Nat → Nat} (hS : zx_So zM_sd) (hi : zx_I zM_sd ad) {p1 : Int32} {s : zx_S} {v : Int32} (h : zM_ValueBenchModel_yOf p1 s = some v) : zx_MI zM_sd l D cz ad yX11_yOf cX11_yOf 2 .int 1 21 [.ref (ad 0), .int p1] s v s := zx_metI hS hi (by decide +kernel) rfl (Nat.le_of_ble_eq_true rfl) (fun Z e1 e2 e3 e4 C hr => by subst e1 e2 e3 e4; exact zM_ValueBenchModel_yOf_w C p1 s hr h)
set_option maxRecDepth 100000 in
set_option maxHeartbeats 4000000 in
theorem zM_ValueBenchModel_reads_w {Z : zx_Z} (C : zx_ok zM_sd Z cX11_reads 4 RX11 3 69) {r : Int32} (p1 p2 : Int32) (s : zx_S) (hr : zx_rI zM_sd Z cX11_reads 4 .int r s) (h : zM_ValueBenchModel_reads p1 p2 s = some r) : zW zM_sd Z 4 0 [(0, .ref (zz_d Z 0)), (1, .int p1), (2, .int p2)] [] s := by
  unfold zM_ValueBenchModel_reads at h
  refine zr_aload_n C dX11_reads_0 (q := 1) rfl 0 rfl rfl ?_
  refine zr_get C dX11_reads_1 (q := 4) zM_gX11_86_0 rfl ?_
  refine zr_bipush C dX11_reads_4 (q := 6) (v := (10 : Int32)) (by decide) rfl ?_
  refine zr_iload_n C dX11_reads_6 (q := 7) rfl 1 rfl rfl ?_
  refine zr_imul C dX11_reads_7 (q := 8) rfl ?_
  refine zr_aload_n C dX11_reads_8 (q := 9) rfl 0 rfl rfl ?_
  refine zr_iload_n C dX11_reads_9 (q := 10) rfl 1 rfl rfl ?_
  obtain ⟨r1, hc_10, h⟩ := zx_b1_so h
  refine zr_cvI (q := 13) C (As := [.int p1]) (k := 0) (rest := [.int ((10 : Int32) * p1), .ref (zz_d Z 26)]) dX11_reads_10 (zM_ValueBenchModel_yOf_met C.2.2.2.2.1 C.2.2.2.1 hc_10) zM_vX11_238 zM_o0 ⟨by decide, by decide⟩ rfl (Nat.le_of_ble_eq_true rfl) rfl rfl ?_
  refine zr_iadd C dX11_reads_13 (q := 14) rfl ?_
  obtain ⟨hin_14, h⟩ := zx_ck_so h
  refine zr_iald C dX11_reads_14 (q := 15) zM_a26 hin_14 rfl ?_
  refine zr_top h (fun v3_2 h => ?_)
  refine zr_istore_n C dX11_reads_15 (q := 16) rfl (by decide) (lv' := [(3, .int v3_2), (0, .ref (zz_d Z 0)), (1, .int p1), (2, .int p2)]) rfl rfl ?_
  refine zr_iload_n C dX11_reads_16 (q := 17) rfl 3 rfl rfl ?_
  refine zr_if_eq (tgt := 35) (q := 20) C dX11_reads_17 h (by decide) rfl (fun h => ?_) (fun h => ?_)
  · skip
    refine zr_iload_n C dX11_reads_35 (q := 36) rfl 0 rfl rfl ?_
    exact zr_retR dX11_reads_36 h hr
  · skip
    refine zr_aload_n C dX11_reads_20 (q := 21) rfl 1 rfl rfl ?_
    refine zr_iload_n C dX11_reads_21 (q := 22) rfl 0 rfl rfl ?_
    refine zr_iload_n C dX11_reads_22 (q := 23) rfl 2 rfl rfl ?_
    refine zr_aload_n C dX11_reads_23 (q := 24) rfl 1 rfl rfl ?_
    refine zr_get C dX11_reads_24 (q := 27) zM_gX11_22_0 rfl ?_
    refine zr_iload_n C dX11_reads_27 (q := 28) rfl 2 rfl rfl ?_
    obtain ⟨hin_28, h⟩ := zx_ck_so h
    refine zr_iald C dX11_reads_28 (q := 29) zM_a5 hin_28 rfl ?_
    obtain ⟨r3, hc_29, h⟩ := zx_b1_so h
    refine zr_cvI (q := 32) C (As := [.int v3_2, .int p1, .int (s 5 (p1).toNatClampNeg)]) (k := 0) (rest := []) dX11_reads_29 (zM_ValueBenchModel_leader_met C.2.2.2.2.1 C.2.2.2.1 hc_29) zM_vX11_201 zM_o0 ⟨by decide, by decide⟩ rfl (Nat.le_of_ble_eq_true rfl) rfl rfl ?_
    refine zr_goto (q := 36) C dX11_reads_32 (by decide) ?_
    exact zr_retR dX11_reads_36 h hr
theorem zM_ValueBenchModel_reads_met {l : Launch} {D : va_G} {cz : ClassId × ClassId} {ad : Nat → Nat} (hS : zx_So zM_sd) (hi : zx_I zM_sd ad) {p1 p2 : Int32} {s : zx_S} {v : Int32} (h : zM_ValueBenchModel_reads p1 p2 s = some v) : zx_MI zM_sd l D cz ad yX11_reads cX11_reads 4 .int 3 69 [.ref (ad 0), .int p1, .int p2] s v s := zx_metI hS hi (by decide +kernel) rfl (Nat.le_of_ble_eq_true rfl) (fun Z e1 e2 e3 e4 C hr => by subst e1 e2 e3 e4; exact zM_ValueBenchModel_reads_w C p1 p2 s hr h)
set_option maxRecDepth 100000 in
set_option maxHeartbeats 4000000 in
theorem zM_ValueBenchModel_chooses_J102_w {Z : zx_Z} (C : zx_ok zM_sd Z cX11_chooses 7 RX11 4 94) {r : zx_S} (v1 v2 v3 v4 v5 v6 : Int32) (s : zx_S) {k10 : Int32 → zx_S → Option zx_S} (hr : zx_rV zM_sd Z cX11_chooses 7 r) (h10 : ∀ (a0 : Int32) (s1 : zx_S), k10 a0 s1 = some r → zW zM_sd Z 7 10 [(0, .ref (zz_d Z 0)), (1, .int v1), (2, .int v2), (3, .int v3), (4, .int a0)] [] s1) (h : zM_ValueBenchModel_chooses_J102 k10 v1 v2 v3 v4 v5 v6 s = some r) : zW zM_sd Z 7 102 [(0, .ref (zz_d Z 0)), (1, .int v1), (2, .int v2), (3, .int v3), (4, .int v4), (5, .int v5), (6, .int v6)] [] s := by
  unfold zM_ValueBenchModel_chooses_J102 at h
  refine zr_aload_n C dX11_chooses_102 (q := 103) rfl 0 rfl rfl ?_
  refine zr_get C dX11_chooses_103 (q := 106) zM_gX11_114_0 rfl ?_
  refine zr_iload C dX11_chooses_106 (q := 108) 5 rfl rfl ?_
  refine zr_aload_n C dX11_chooses_108 (q := 109) rfl 0 rfl rfl ?_
  refine zr_get C dX11_chooses_109 (q := 112) zM_gX11_111_0 rfl ?_
  refine zr_iload_n C dX11_chooses_112 (q := 113) rfl 1 rfl rfl ?_
  refine zr_iconst C dX11_chooses_113 (q := 114) (v := (1 : Int32)) (by decide) rfl ?_
  refine zr_icmp_ne (tgt := 133) (q := 117) C dX11_chooses_114 h (by decide) rfl (fun h => ?_) (fun h => ?_)
  · skip
    refine zr_aload_n C dX11_chooses_133 (q := 134) rfl 0 rfl rfl ?_
    refine zr_iload C dX11_chooses_134 (q := 136) 5 rfl rfl ?_
    refine zr_iload C dX11_chooses_136 (q := 138) 6 rfl rfl ?_
    obtain ⟨r9, hc_138, h⟩ := zx_b1_so h
    refine zr_cvI (q := 141) C (As := [.int v5, .int v6]) (k := 0) (rest := [.ref (zz_d Z 33), .int v5, .ref (zz_d Z 34)]) dX11_chooses_138 (zM_ValueBenchModel_ledOperand_met C.2.2.2.2.1 C.2.2.2.1 hc_138) zM_vX11_245 zM_o0 ⟨by decide, by decide⟩ rfl (Nat.le_of_ble_eq_true rfl) rfl rfl ?_
    obtain ⟨hin_141, h⟩ := zx_ck_so h
    refine zr_iald C dX11_chooses_141 (q := 142) zM_a33 hin_141 rfl ?_
    refine zr_top h (fun x10 h => ?_)
    obtain ⟨hin_142, h⟩ := zx_ck_so h
    refine zr_iast C dX11_chooses_142 (q := 143) zM_a34 hin_142 rfl ?_
    refine zr_ls h (fun s11 h => ?_)
    refine zr_iinc C dX11_chooses_143 (q := 146) h (by decide) 4 rfl (by decide) (lw := fun v4_12 => [(4, .int v4_12), (0, .ref (zz_d Z 0)), (1, .int v1), (2, .int v2), (3, .int v3), (5, .int v5), (6, .int v6)]) (fun _ => rfl) rfl (fun v4_12 h => ?_)
    refine zr_goto (q := 10) C dX11_chooses_146 (by decide) ?_
    exact zr_sub [1, 2, 3, 4, 0] rfl (h10 v4_12 s11 h)
  · skip
    refine zr_aload_n C dX11_chooses_117 (q := 118) rfl 0 rfl rfl ?_
    refine zr_get C dX11_chooses_118 (q := 121) zM_gX11_71_0 rfl ?_
    refine zr_bipush C dX11_chooses_121 (q := 123) (v := (20 : Int32)) (by decide) rfl ?_
    refine zr_iload C dX11_chooses_123 (q := 125) 5 rfl rfl ?_
    refine zr_imul C dX11_chooses_125 (q := 126) rfl ?_
    refine zr_iload C dX11_chooses_126 (q := 128) 6 rfl rfl ?_
    refine zr_iadd C dX11_chooses_128 (q := 129) rfl ?_
    obtain ⟨hin_129, h⟩ := zx_ck_so h
    refine zr_iald C dX11_chooses_129 (q := 130) zM_a21 hin_129 rfl ?_
    refine zr_goto (q := 141) C dX11_chooses_130 (by decide) ?_
    obtain ⟨hin_141, h⟩ := zx_ck_so h
    refine zr_iald C dX11_chooses_141 (q := 142) zM_a33 hin_141 rfl ?_
    refine zr_top h (fun x6 h => ?_)
    obtain ⟨hin_142, h⟩ := zx_ck_so h
    refine zr_iast C dX11_chooses_142 (q := 143) zM_a34 hin_142 rfl ?_
    refine zr_ls h (fun s7 h => ?_)
    refine zr_iinc C dX11_chooses_143 (q := 146) h (by decide) 4 rfl (by decide) (lw := fun v4_8 => [(4, .int v4_8), (0, .ref (zz_d Z 0)), (1, .int v1), (2, .int v2), (3, .int v3), (5, .int v5), (6, .int v6)]) (fun _ => rfl) rfl (fun v4_8 h => ?_)
    refine zr_goto (q := 10) C dX11_chooses_146 (by decide) ?_
    exact zr_sub [1, 2, 3, 4, 0] rfl (h10 v4_8 s7 h)
set_option maxRecDepth 100000 in
set_option maxHeartbeats 4000000 in
theorem zM_ValueBenchModel_chooses_L85_w {Z : zx_Z} (C : zx_ok zM_sd Z cX11_chooses 7 RX11 4 94) {r : zx_S} (v1 v2 v3 v4 v5 : Int32) (s : zx_S) {k102 : Int32 → Option zx_S} (hr : zx_rV zM_sd Z cX11_chooses 7 r) (h102 : ∀ (a0 : Int32), k102 a0 = some r → zW zM_sd Z 7 102 [(0, .ref (zz_d Z 0)), (1, .int v1), (2, .int v2), (3, .int v3), (4, .int v4), (5, .int v5), (6, .int a0)] [] s) : ∀ (n : Nat) (v6 : Int32), zM_ValueBenchModel_chooses_L85 v1 v2 v3 v4 v5 s k102 n v6 = some r → zW zM_sd Z 7 85 [(0, .ref (zz_d Z 0)), (1, .int v1), (2, .int v2), (3, .int v3), (4, .int v4), (5, .int v5), (6, .int v6)] [] s := by
  intro n
  induction n with
  | zero => intro v6 h; unfold zM_ValueBenchModel_chooses_L85 at h; cases h
  | succ n ih =>
    intro v6 h
    unfold zM_ValueBenchModel_chooses_L85 at h
    refine zr_aload_n C dX11_chooses_85 (q := 86) rfl 0 rfl rfl ?_
    refine zr_iload_n C dX11_chooses_86 (q := 87) rfl 2 rfl rfl ?_
    refine zr_iload C dX11_chooses_87 (q := 89) 6 rfl rfl ?_
    obtain ⟨r13, hc_89, h⟩ := zx_b1_so h
    refine zr_cvI (q := 92) C (As := [.int v2, .int v6]) (k := 0) (rest := []) dX11_chooses_89 (zM_ValueBenchModel_predecessorAt_met C.2.2.2.2.1 C.2.2.2.1 hc_89) zM_vX11_205 zM_o0 ⟨by decide, by decide⟩ rfl (Nat.le_of_ble_eq_true rfl) rfl rfl ?_
    refine zr_iload_n C dX11_chooses_92 (q := 93) rfl 3 rfl rfl ?_
    refine zr_icmp_eq (tgt := 102) (q := 96) C dX11_chooses_93 h (by decide) rfl (fun h => ?_) (fun h => ?_)
    · skip
      exact zr_sub [0, 1, 2, 3, 4, 5, 6] rfl (h102 v6 h)
    · skip
      refine zr_iinc C dX11_chooses_96 (q := 99) h (by decide) 6 rfl (by decide) (lw := fun v6_14 => [(6, .int v6_14), (0, .ref (zz_d Z 0)), (1, .int v1), (2, .int v2), (3, .int v3), (4, .int v4), (5, .int v5)]) (fun _ => rfl) rfl (fun v6_14 h => ?_)
      refine zr_goto (q := 85) C dX11_chooses_99 (by decide) ?_
      exact zr_sub [1, 2, 3, 4, 5, 6, 0] rfl (ih v6_14 h)
set_option maxRecDepth 100000 in
set_option maxHeartbeats 4000000 in
theorem zM_ValueBenchModel_chooses_J102b_w {Z : zx_Z} (C : zx_ok zM_sd Z cX11_chooses 7 RX11 4 94) {r : zx_S} (v1 v2 v3 v4 v5 v6 : Int32) (s : zx_S) {k10 : Int32 → zx_S → Option zx_S} (hr : zx_rV zM_sd Z cX11_chooses 7 r) (h10 : ∀ (a0 : Int32) (s1 : zx_S), k10 a0 s1 = some r → zW zM_sd Z 7 10 [(0, .ref (zz_d Z 0)), (1, .int v1), (2, .int v2), (3, .int v3), (4, .int a0)] [] s1) (h : zM_ValueBenchModel_chooses_J102b k10 v1 v2 v3 v4 v5 v6 s = some r) : zW zM_sd Z 7 102 [(0, .ref (zz_d Z 0)), (1, .int v1), (2, .int v2), (3, .int v3), (4, .int v4), (5, .int v5), (6, .int v6)] [] s := by
  unfold zM_ValueBenchModel_chooses_J102b at h
  refine zr_aload_n C dX11_chooses_102 (q := 103) rfl 0 rfl rfl ?_
  refine zr_get C dX11_chooses_103 (q := 106) zM_gX11_114_0 rfl ?_
  refine zr_iload C dX11_chooses_106 (q := 108) 5 rfl rfl ?_
  refine zr_aload_n C dX11_chooses_108 (q := 109) rfl 0 rfl rfl ?_
  refine zr_get C dX11_chooses_109 (q := 112) zM_gX11_111_0 rfl ?_
  refine zr_iload_n C dX11_chooses_112 (q := 113) rfl 1 rfl rfl ?_
  refine zr_iconst C dX11_chooses_113 (q := 114) (v := (1 : Int32)) (by decide) rfl ?_
  refine zr_icmp_ne (tgt := 133) (q := 117) C dX11_chooses_114 h (by decide) rfl (fun h => ?_) (fun h => ?_)
  · skip
    refine zr_aload_n C dX11_chooses_133 (q := 134) rfl 0 rfl rfl ?_
    refine zr_iload C dX11_chooses_134 (q := 136) 5 rfl rfl ?_
    refine zr_iload C dX11_chooses_136 (q := 138) 6 rfl rfl ?_
    obtain ⟨r20, hc_138, h⟩ := zx_b1_so h
    refine zr_cvI (q := 141) C (As := [.int v5, .int v6]) (k := 0) (rest := [.ref (zz_d Z 33), .int v5, .ref (zz_d Z 34)]) dX11_chooses_138 (zM_ValueBenchModel_ledOperand_met C.2.2.2.2.1 C.2.2.2.1 hc_138) zM_vX11_245 zM_o0 ⟨by decide, by decide⟩ rfl (Nat.le_of_ble_eq_true rfl) rfl rfl ?_
    obtain ⟨hin_141, h⟩ := zx_ck_so h
    refine zr_iald C dX11_chooses_141 (q := 142) zM_a33 hin_141 rfl ?_
    refine zr_top h (fun x21 h => ?_)
    obtain ⟨hin_142, h⟩ := zx_ck_so h
    refine zr_iast C dX11_chooses_142 (q := 143) zM_a34 hin_142 rfl ?_
    refine zr_ls h (fun s22 h => ?_)
    refine zr_iinc C dX11_chooses_143 (q := 146) h (by decide) 4 rfl (by decide) (lw := fun v4_23 => [(4, .int v4_23), (0, .ref (zz_d Z 0)), (1, .int v1), (2, .int v2), (3, .int v3), (5, .int v5), (6, .int v6)]) (fun _ => rfl) rfl (fun v4_23 h => ?_)
    refine zr_goto (q := 10) C dX11_chooses_146 (by decide) ?_
    exact zr_sub [1, 2, 3, 4, 0] rfl (h10 v4_23 s22 h)
  · skip
    refine zr_aload_n C dX11_chooses_117 (q := 118) rfl 0 rfl rfl ?_
    refine zr_get C dX11_chooses_118 (q := 121) zM_gX11_71_0 rfl ?_
    refine zr_bipush C dX11_chooses_121 (q := 123) (v := (20 : Int32)) (by decide) rfl ?_
    refine zr_iload C dX11_chooses_123 (q := 125) 5 rfl rfl ?_
    refine zr_imul C dX11_chooses_125 (q := 126) rfl ?_
    refine zr_iload C dX11_chooses_126 (q := 128) 6 rfl rfl ?_
    refine zr_iadd C dX11_chooses_128 (q := 129) rfl ?_
    obtain ⟨hin_129, h⟩ := zx_ck_so h
    refine zr_iald C dX11_chooses_129 (q := 130) zM_a21 hin_129 rfl ?_
    refine zr_goto (q := 141) C dX11_chooses_130 (by decide) ?_
    obtain ⟨hin_141, h⟩ := zx_ck_so h
    refine zr_iald C dX11_chooses_141 (q := 142) zM_a33 hin_141 rfl ?_
    refine zr_top h (fun x17 h => ?_)
    obtain ⟨hin_142, h⟩ := zx_ck_so h
    refine zr_iast C dX11_chooses_142 (q := 143) zM_a34 hin_142 rfl ?_
    refine zr_ls h (fun s18 h => ?_)
    refine zr_iinc C dX11_chooses_143 (q := 146) h (by decide) 4 rfl (by decide) (lw := fun v4_19 => [(4, .int v4_19), (0, .ref (zz_d Z 0)), (1, .int v1), (2, .int v2), (3, .int v3), (5, .int v5), (6, .int v6)]) (fun _ => rfl) rfl (fun v4_19 h => ?_)
    refine zr_goto (q := 10) C dX11_chooses_146 (by decide) ?_
    exact zr_sub [1, 2, 3, 4, 0] rfl (h10 v4_19 s18 h)
set_option maxRecDepth 100000 in
set_option maxHeartbeats 4000000 in
theorem zM_ValueBenchModel_chooses_L85b_w {Z : zx_Z} (C : zx_ok zM_sd Z cX11_chooses 7 RX11 4 94) {r : zx_S} (v1 v2 v3 v4 v5 : Int32) (s : zx_S) {k102 : Int32 → Option zx_S} (hr : zx_rV zM_sd Z cX11_chooses 7 r) (h102 : ∀ (a0 : Int32), k102 a0 = some r → zW zM_sd Z 7 102 [(0, .ref (zz_d Z 0)), (1, .int v1), (2, .int v2), (3, .int v3), (4, .int v4), (5, .int v5), (6, .int a0)] [] s) : ∀ (n : Nat) (v6 : Int32), zM_ValueBenchModel_chooses_L85b v1 v2 v3 v4 v5 s k102 n v6 = some r → zW zM_sd Z 7 85 [(0, .ref (zz_d Z 0)), (1, .int v1), (2, .int v2), (3, .int v3), (4, .int v4), (5, .int v5), (6, .int v6)] [] s := by
  intro n
  induction n with
  | zero => intro v6 h; unfold zM_ValueBenchModel_chooses_L85b at h; cases h
  | succ n ih =>
    intro v6 h
    unfold zM_ValueBenchModel_chooses_L85b at h
    refine zr_aload_n C dX11_chooses_85 (q := 86) rfl 0 rfl rfl ?_
    refine zr_iload_n C dX11_chooses_86 (q := 87) rfl 2 rfl rfl ?_
    refine zr_iload C dX11_chooses_87 (q := 89) 6 rfl rfl ?_
    obtain ⟨r24, hc_89, h⟩ := zx_b1_so h
    refine zr_cvI (q := 92) C (As := [.int v2, .int v6]) (k := 0) (rest := []) dX11_chooses_89 (zM_ValueBenchModel_predecessorAt_met C.2.2.2.2.1 C.2.2.2.1 hc_89) zM_vX11_205 zM_o0 ⟨by decide, by decide⟩ rfl (Nat.le_of_ble_eq_true rfl) rfl rfl ?_
    refine zr_iload_n C dX11_chooses_92 (q := 93) rfl 3 rfl rfl ?_
    refine zr_icmp_eq (tgt := 102) (q := 96) C dX11_chooses_93 h (by decide) rfl (fun h => ?_) (fun h => ?_)
    · skip
      exact zr_sub [0, 1, 2, 3, 4, 5, 6] rfl (h102 v6 h)
    · skip
      refine zr_iinc C dX11_chooses_96 (q := 99) h (by decide) 6 rfl (by decide) (lw := fun v6_25 => [(6, .int v6_25), (0, .ref (zz_d Z 0)), (1, .int v1), (2, .int v2), (3, .int v3), (4, .int v4), (5, .int v5)]) (fun _ => rfl) rfl (fun v6_25 h => ?_)
      refine zr_goto (q := 85) C dX11_chooses_99 (by decide) ?_
      exact zr_sub [1, 2, 3, 4, 5, 6, 0] rfl (ih v6_25 h)
set_option maxRecDepth 100000 in
set_option maxHeartbeats 4000000 in
theorem zM_ValueBenchModel_chooses_L10_w {Z : zx_Z} (C : zx_ok zM_sd Z cX11_chooses 7 RX11 4 94) {r : zx_S} (v1 v2 v3 : Int32) {k149 : zx_S → Option zx_S} (hr : zx_rV zM_sd Z cX11_chooses 7 r) (h149 : ∀ (s1 : zx_S), k149 s1 = some r → zW zM_sd Z 7 149 [(0, .ref (zz_d Z 0)), (1, .int v1), (2, .int v2)] [] s1) : ∀ (n : Nat) (v4 : Int32) (s : zx_S), zM_ValueBenchModel_chooses_L10 v1 v2 v3 k149 n v4 s = some r → zW zM_sd Z 7 10 [(0, .ref (zz_d Z 0)), (1, .int v1), (2, .int v2), (3, .int v3), (4, .int v4)] [] s := by
  intro n
  induction n with
  | zero => intro v4 s h; unfold zM_ValueBenchModel_chooses_L10 at h; cases h
  | succ n ih =>
    intro v4 s h
    unfold zM_ValueBenchModel_chooses_L10 at h
    refine zr_iload C dX11_chooses_10 (q := 12) 4 rfl rfl ?_
    refine zr_bipush C dX11_chooses_12 (q := 14) (v := (10 : Int32)) (by decide) rfl ?_
    refine zr_icmp_ge (tgt := 149) (q := 17) C dX11_chooses_14 h (by decide) rfl (fun h => ?_) (fun h => ?_)
    · skip
      exact zr_sub [0, 1, 2] rfl (h149 s h)
    · skip
      refine zr_aload_n C dX11_chooses_17 (q := 18) rfl 0 rfl rfl ?_
      refine zr_get C dX11_chooses_18 (q := 21) zM_gX11_53_0 rfl ?_
      refine zr_bipush C dX11_chooses_21 (q := 23) (v := (10 : Int32)) (by decide) rfl ?_
      refine zr_iload_n C dX11_chooses_23 (q := 24) rfl 2 rfl rfl ?_
      refine zr_imul C dX11_chooses_24 (q := 25) rfl ?_
      refine zr_iload C dX11_chooses_25 (q := 27) 4 rfl rfl ?_
      refine zr_iadd C dX11_chooses_27 (q := 28) rfl ?_
      obtain ⟨hin_28, h⟩ := zx_ck_so h
      refine zr_zald C dX11_chooses_28 (q := 29) zM_a15 hin_28 rfl ?_
      refine zr_if_ne (tgt := 35) (q := 32) C dX11_chooses_29 h (by decide) rfl (fun h => ?_) (fun h => ?_)
      · skip
        refine zr_aload_n C dX11_chooses_35 (q := 36) rfl 0 rfl rfl ?_
        refine zr_get C dX11_chooses_36 (q := 39) zM_gX11_77_0 rfl ?_
        refine zr_bipush C dX11_chooses_39 (q := 41) (v := (10 : Int32)) (by decide) rfl ?_
        refine zr_iload_n C dX11_chooses_41 (q := 42) rfl 2 rfl rfl ?_
        refine zr_imul C dX11_chooses_42 (q := 43) rfl ?_
        refine zr_iload C dX11_chooses_43 (q := 45) 4 rfl rfl ?_
        refine zr_iadd C dX11_chooses_45 (q := 46) rfl ?_
        obtain ⟨hin_46, h⟩ := zx_ck_so h
        refine zr_iald C dX11_chooses_46 (q := 47) zM_a23 hin_46 rfl ?_
        refine zr_top h (fun v5_3 h => ?_)
        refine zr_istore C dX11_chooses_47 (q := 49) (by decide) (lv' := [(5, .int v5_3), (0, .ref (zz_d Z 0)), (1, .int v1), (2, .int v2), (3, .int v3), (4, .int v4)]) rfl rfl ?_
        refine zr_iload_n C dX11_chooses_49 (q := 50) rfl 2 rfl rfl ?_
        refine zr_iconst C dX11_chooses_50 (q := 51) (v := (2 : Int32)) (by decide) rfl ?_
        refine zr_icmp_ne (tgt := 67) (q := 54) C dX11_chooses_51 h (by decide) rfl (fun h => ?_) (fun h => ?_)
        · skip
          refine zr_aload_n C dX11_chooses_67 (q := 68) rfl 1 rfl rfl ?_
          refine zr_get C dX11_chooses_68 (q := 71) zM_gX11_74_0 rfl ?_
          refine zr_iload C dX11_chooses_71 (q := 73) 0 rfl rfl ?_
          obtain ⟨hin_73, h⟩ := zx_ck_so h
          refine zr_iald C dX11_chooses_73 (q := 74) zM_a22 hin_73 rfl ?_
          refine zr_iconst C dX11_chooses_74 (q := 75) (v := (1 : Int32)) (by decide) rfl ?_
          refine zr_isub C dX11_chooses_75 (q := 76) rfl ?_
          refine zr_top h (fun v6_16 h => ?_)
          refine zr_istore C dX11_chooses_76 (q := 78) (by decide) (lv' := [(6, .int v6_16), (5, .int v5_3), (0, .ref (zz_d Z 0)), (1, .int v1), (2, .int v2), (3, .int v3), (4, .int v4)]) rfl rfl ?_
          refine zr_iload_n C dX11_chooses_78 (q := 79) rfl 5 rfl rfl ?_
          refine zr_if_lt (tgt := 102) (q := 82) C dX11_chooses_79 h (by decide) rfl (fun h => ?_) (fun h => ?_)
          · skip
            exact zr_sub [2, 3, 4, 5, 6, 1, 0] rfl (zM_ValueBenchModel_chooses_J102b_w C v1 v2 v3 v4 v5_3 v6_16 s hr (ih) h)
          · skip
            refine zr_iconst C dX11_chooses_82 (q := 83) (v := (0 : Int32)) (by decide) rfl ?_
            refine zr_istore C dX11_chooses_83 (q := 85) (by decide) (lv' := [(6, .int (0 : Int32)), (5, .int v5_3), (0, .ref (zz_d Z 0)), (1, .int v1), (2, .int v2), (3, .int v3), (4, .int v4)]) rfl rfl ?_
            refine zr_sub [2, 3, 4, 5, 6, 1, 0] rfl (zM_ValueBenchModel_chooses_L85b_w C v1 v2 v3 v4 v5_3 s hr (fun v6_26 h => ?_) 10000 (0 : Int32) h)
            · skip
              exact zr_sub [0, 1, 2, 3, 4, 5, 6] rfl (zM_ValueBenchModel_chooses_J102b_w C v1 v2 v3 v4 v5_3 v6_26 s hr (ih) h)
        · skip
          refine zr_aload_n C dX11_chooses_54 (q := 55) rfl 1 rfl rfl ?_
          refine zr_get C dX11_chooses_55 (q := 58) zM_gX11_98_0 rfl ?_
          refine zr_iload C dX11_chooses_58 (q := 60) 0 rfl rfl ?_
          obtain ⟨hin_60, h⟩ := zx_ck_so h
          refine zr_zald C dX11_chooses_60 (q := 61) zM_a30 hin_60 rfl ?_
          refine zr_if_eq (tgt := 67) (q := 64) C dX11_chooses_61 h (by decide) rfl (fun h => ?_) (fun h => ?_)
          · skip
            refine zr_aload_n C dX11_chooses_67 (q := 68) rfl 1 rfl rfl ?_
            refine zr_get C dX11_chooses_68 (q := 71) zM_gX11_74_0 rfl ?_
            refine zr_iload C dX11_chooses_71 (q := 73) 0 rfl rfl ?_
            obtain ⟨hin_73, h⟩ := zx_ck_so h
            refine zr_iald C dX11_chooses_73 (q := 74) zM_a22 hin_73 rfl ?_
            refine zr_iconst C dX11_chooses_74 (q := 75) (v := (1 : Int32)) (by decide) rfl ?_
            refine zr_isub C dX11_chooses_75 (q := 76) rfl ?_
            refine zr_top h (fun v6_5 h => ?_)
            refine zr_istore C dX11_chooses_76 (q := 78) (by decide) (lv' := [(6, .int v6_5), (5, .int v5_3), (0, .ref (zz_d Z 0)), (1, .int v1), (2, .int v2), (3, .int v3), (4, .int v4)]) rfl rfl ?_
            refine zr_iload_n C dX11_chooses_78 (q := 79) rfl 5 rfl rfl ?_
            refine zr_if_lt (tgt := 102) (q := 82) C dX11_chooses_79 h (by decide) rfl (fun h => ?_) (fun h => ?_)
            · skip
              exact zr_sub [2, 3, 4, 5, 6, 1, 0] rfl (zM_ValueBenchModel_chooses_J102_w C v1 v2 v3 v4 v5_3 v6_5 s hr (ih) h)
            · skip
              refine zr_iconst C dX11_chooses_82 (q := 83) (v := (0 : Int32)) (by decide) rfl ?_
              refine zr_istore C dX11_chooses_83 (q := 85) (by decide) (lv' := [(6, .int (0 : Int32)), (5, .int v5_3), (0, .ref (zz_d Z 0)), (1, .int v1), (2, .int v2), (3, .int v3), (4, .int v4)]) rfl rfl ?_
              refine zr_sub [2, 3, 4, 5, 6, 1, 0] rfl (zM_ValueBenchModel_chooses_L85_w C v1 v2 v3 v4 v5_3 s hr (fun v6_15 h => ?_) 10000 (0 : Int32) h)
              · skip
                exact zr_sub [0, 1, 2, 3, 4, 5, 6] rfl (zM_ValueBenchModel_chooses_J102_w C v1 v2 v3 v4 v5_3 v6_15 s hr (ih) h)
          · skip
            refine zr_goto (q := 143) C dX11_chooses_64 (by decide) ?_
            refine zr_iinc C dX11_chooses_143 (q := 146) h (by decide) 5 rfl (by decide) (lw := fun v4_4 => [(4, .int v4_4), (5, .int v5_3), (0, .ref (zz_d Z 0)), (1, .int v1), (2, .int v2), (3, .int v3)]) (fun _ => rfl) rfl (fun v4_4 h => ?_)
            refine zr_goto (q := 10) C dX11_chooses_146 (by decide) ?_
            exact zr_sub [2, 3, 4, 5, 0] rfl (ih v4_4 s h)
      · skip
        refine zr_goto (q := 143) C dX11_chooses_32 (by decide) ?_
        refine zr_iinc C dX11_chooses_143 (q := 146) h (by decide) 4 rfl (by decide) (lw := fun v4_2 => [(4, .int v4_2), (0, .ref (zz_d Z 0)), (1, .int v1), (2, .int v2), (3, .int v3)]) (fun _ => rfl) rfl (fun v4_2 h => ?_)
        refine zr_goto (q := 10) C dX11_chooses_146 (by decide) ?_
        exact zr_sub [1, 2, 3, 4, 0] rfl (ih v4_2 s h)
set_option maxRecDepth 100000 in
set_option maxHeartbeats 4000000 in
theorem zM_ValueBenchModel_chooses_L152_w {Z : zx_Z} (C : zx_ok zM_sd Z cX11_chooses 7 RX11 4 94) {r : zx_S} (v1 v2 : Int32) {k226 : zx_S → Option zx_S} (hr : zx_rV zM_sd Z cX11_chooses 7 r) (h226 : ∀ (s1 : zx_S), k226 s1 = some r → zW zM_sd Z 7 226 [] [] s1) : ∀ (n : Nat) (v4 : Int32) (s : zx_S), zM_ValueBenchModel_chooses_L152 v1 v2 k226 n v4 s = some r → zW zM_sd Z 7 152 [(0, .ref (zz_d Z 0)), (1, .int v1), (2, .int v2), (4, .int v4)] [] s := by
  intro n
  induction n with
  | zero => intro v4 s h; unfold zM_ValueBenchModel_chooses_L152 at h; cases h
  | succ n ih =>
    intro v4 s h
    unfold zM_ValueBenchModel_chooses_L152 at h
    refine zr_iload C dX11_chooses_152 (q := 154) 3 rfl rfl ?_
    refine zr_bipush C dX11_chooses_154 (q := 156) (v := (10 : Int32)) (by decide) rfl ?_
    refine zr_icmp_ge (tgt := 226) (q := 159) C dX11_chooses_156 h (by decide) rfl (fun h => ?_) (fun h => ?_)
    · skip
      exact zr_sub [] rfl (h226 s h)
    · skip
      refine zr_aload_n C dX11_chooses_159 (q := 160) rfl 0 rfl rfl ?_
      refine zr_get C dX11_chooses_160 (q := 163) zM_gX11_53_0 rfl ?_
      refine zr_bipush C dX11_chooses_163 (q := 165) (v := (10 : Int32)) (by decide) rfl ?_
      refine zr_iload_n C dX11_chooses_165 (q := 166) rfl 2 rfl rfl ?_
      refine zr_imul C dX11_chooses_166 (q := 167) rfl ?_
      refine zr_iload C dX11_chooses_167 (q := 169) 3 rfl rfl ?_
      refine zr_iadd C dX11_chooses_169 (q := 170) rfl ?_
      obtain ⟨hin_170, h⟩ := zx_ck_so h
      refine zr_zald C dX11_chooses_170 (q := 171) zM_a15 hin_170 rfl ?_
      refine zr_if_ne (tgt := 177) (q := 174) C dX11_chooses_171 h (by decide) rfl (fun h => ?_) (fun h => ?_)
      · skip
        refine zr_aload_n C dX11_chooses_177 (q := 178) rfl 0 rfl rfl ?_
        refine zr_get C dX11_chooses_178 (q := 181) zM_gX11_77_0 rfl ?_
        refine zr_bipush C dX11_chooses_181 (q := 183) (v := (10 : Int32)) (by decide) rfl ?_
        refine zr_iload_n C dX11_chooses_183 (q := 184) rfl 2 rfl rfl ?_
        refine zr_imul C dX11_chooses_184 (q := 185) rfl ?_
        refine zr_iload C dX11_chooses_185 (q := 187) 3 rfl rfl ?_
        refine zr_iadd C dX11_chooses_187 (q := 188) rfl ?_
        obtain ⟨hin_188, h⟩ := zx_ck_so h
        refine zr_iald C dX11_chooses_188 (q := 189) zM_a23 hin_188 rfl ?_
        refine zr_top h (fun v5_29 h => ?_)
        refine zr_istore C dX11_chooses_189 (q := 191) (by decide) (lv' := [(5, .int v5_29), (0, .ref (zz_d Z 0)), (1, .int v1), (2, .int v2), (4, .int v4)]) rfl rfl ?_
        refine zr_iload_n C dX11_chooses_191 (q := 192) rfl 2 rfl rfl ?_
        refine zr_iconst C dX11_chooses_192 (q := 193) (v := (1 : Int32)) (by decide) rfl ?_
        refine zr_icmp_eq (tgt := 206) (q := 196) C dX11_chooses_193 h (by decide) rfl (fun h => ?_) (fun h => ?_)
        · skip
          refine zr_aload_n C dX11_chooses_206 (q := 207) rfl 1 rfl rfl ?_
          refine zr_get C dX11_chooses_207 (q := 210) zM_gX11_111_0 rfl ?_
          refine zr_iload C dX11_chooses_210 (q := 212) 0 rfl rfl ?_
          refine zr_aload_n C dX11_chooses_212 (q := 213) rfl 1 rfl rfl ?_
          refine zr_get C dX11_chooses_213 (q := 216) zM_gX11_114_0 rfl ?_
          refine zr_iload C dX11_chooses_216 (q := 218) 0 rfl rfl ?_
          obtain ⟨hin_218, h⟩ := zx_ck_so h
          refine zr_iald C dX11_chooses_218 (q := 219) zM_a34 hin_218 rfl ?_
          refine zr_top h (fun x34 h => ?_)
          obtain ⟨hin_219, h⟩ := zx_ck_so h
          refine zr_iast C dX11_chooses_219 (q := 220) zM_a33 hin_219 rfl ?_
          refine zr_ls h (fun s35 h => ?_)
          refine zr_iinc C dX11_chooses_220 (q := 223) h (by decide) 4 rfl (by decide) (lw := fun v4_36 => [(4, .int v4_36), (5, .int v5_29), (0, .ref (zz_d Z 0)), (1, .int v1), (2, .int v2)]) (fun _ => rfl) rfl (fun v4_36 h => ?_)
          refine zr_goto (q := 152) C dX11_chooses_223 (by decide) ?_
          exact zr_sub [2, 3, 4, 0] rfl (ih v4_36 s35 h)
        · skip
          refine zr_aload_n C dX11_chooses_196 (q := 197) rfl 1 rfl rfl ?_
          refine zr_get C dX11_chooses_197 (q := 200) zM_gX11_98_0 rfl ?_
          refine zr_iload C dX11_chooses_200 (q := 202) 0 rfl rfl ?_
          obtain ⟨hin_202, h⟩ := zx_ck_so h
          refine zr_zald C dX11_chooses_202 (q := 203) zM_a30 hin_202 rfl ?_
          refine zr_if_ne (tgt := 220) (q := 206) C dX11_chooses_203 h (by decide) rfl (fun h => ?_) (fun h => ?_)
          · skip
            refine zr_iinc C dX11_chooses_220 (q := 223) h (by decide) 4 rfl (by decide) (lw := fun v4_33 => [(4, .int v4_33), (5, .int v5_29), (0, .ref (zz_d Z 0)), (1, .int v1), (2, .int v2)]) (fun _ => rfl) rfl (fun v4_33 h => ?_)
            refine zr_goto (q := 152) C dX11_chooses_223 (by decide) ?_
            exact zr_sub [2, 3, 4, 0] rfl (ih v4_33 s h)
          · skip
            refine zr_aload_n C dX11_chooses_206 (q := 207) rfl 1 rfl rfl ?_
            refine zr_get C dX11_chooses_207 (q := 210) zM_gX11_111_0 rfl ?_
            refine zr_iload C dX11_chooses_210 (q := 212) 0 rfl rfl ?_
            refine zr_aload_n C dX11_chooses_212 (q := 213) rfl 1 rfl rfl ?_
            refine zr_get C dX11_chooses_213 (q := 216) zM_gX11_114_0 rfl ?_
            refine zr_iload C dX11_chooses_216 (q := 218) 0 rfl rfl ?_
            obtain ⟨hin_218, h⟩ := zx_ck_so h
            refine zr_iald C dX11_chooses_218 (q := 219) zM_a34 hin_218 rfl ?_
            refine zr_top h (fun x30 h => ?_)
            obtain ⟨hin_219, h⟩ := zx_ck_so h
            refine zr_iast C dX11_chooses_219 (q := 220) zM_a33 hin_219 rfl ?_
            refine zr_ls h (fun s31 h => ?_)
            refine zr_iinc C dX11_chooses_220 (q := 223) h (by decide) 4 rfl (by decide) (lw := fun v4_32 => [(4, .int v4_32), (5, .int v5_29), (0, .ref (zz_d Z 0)), (1, .int v1), (2, .int v2)]) (fun _ => rfl) rfl (fun v4_32 h => ?_)
            refine zr_goto (q := 152) C dX11_chooses_223 (by decide) ?_
            exact zr_sub [2, 3, 4, 0] rfl (ih v4_32 s31 h)
      · skip
        refine zr_goto (q := 220) C dX11_chooses_174 (by decide) ?_
        refine zr_iinc C dX11_chooses_220 (q := 223) h (by decide) 3 rfl (by decide) (lw := fun v4_28 => [(4, .int v4_28), (0, .ref (zz_d Z 0)), (1, .int v1), (2, .int v2)]) (fun _ => rfl) rfl (fun v4_28 h => ?_)
        refine zr_goto (q := 152) C dX11_chooses_223 (by decide) ?_
        exact zr_sub [1, 2, 3, 0] rfl (ih v4_28 s h)
set_option maxRecDepth 100000 in
set_option maxHeartbeats 4000000 in
theorem zM_ValueBenchModel_chooses_w {Z : zx_Z} (C : zx_ok zM_sd Z cX11_chooses 7 RX11 4 94) {r : zx_S} (p1 p2 p3 : Int32) (s : zx_S) (hr : zx_rV zM_sd Z cX11_chooses 7 r) (h : zM_ValueBenchModel_chooses p1 p2 p3 s = some r) : zW zM_sd Z 7 0 [(0, .ref (zz_d Z 0)), (1, .int p1), (2, .int p2), (3, .int p3)] [] s := by
  unfold zM_ValueBenchModel_chooses at h
  refine zr_aload_n C dX11_chooses_0 (q := 1) rfl 0 rfl rfl ?_
  refine zr_get C dX11_chooses_1 (q := 4) zM_gX11_111_0 rfl ?_
  refine zr_iconst C dX11_chooses_4 (q := 5) (v := (0 : Int32)) (by decide) rfl ?_
  refine zr_iconst C dX11_chooses_5 (q := 6) (v := (0 : Int32)) (by decide) rfl ?_
  obtain ⟨hin_6, h⟩ := zx_ck_so h
  refine zr_iast C dX11_chooses_6 (q := 7) zM_a33 hin_6 rfl ?_
  refine zr_ls h (fun s1 h => ?_)
  refine zr_iconst C dX11_chooses_7 (q := 8) (v := (0 : Int32)) (by decide) rfl ?_
  refine zr_istore C dX11_chooses_8 (q := 10) (by decide) (lv' := [(4, .int (0 : Int32)), (0, .ref (zz_d Z 0)), (1, .int p1), (2, .int p2), (3, .int p3)]) rfl rfl ?_
  refine zr_sub [1, 2, 3, 4, 0] rfl (zM_ValueBenchModel_chooses_L10_w C p1 p2 p3 hr (fun s27 h => ?_) 10000 (0 : Int32) s1 h)
  · skip
    refine zr_iconst C dX11_chooses_149 (q := 150) (v := (0 : Int32)) (by decide) rfl ?_
    refine zr_istore C dX11_chooses_150 (q := 152) (by decide) (lv' := [(4, .int (0 : Int32)), (0, .ref (zz_d Z 0)), (1, .int p1), (2, .int p2)]) rfl rfl ?_
    refine zr_sub [1, 2, 3, 0] rfl (zM_ValueBenchModel_chooses_L152_w C p1 p2 hr (fun s37 h => ?_) 10000 (0 : Int32) s27 h)
    · skip
      exact zr_retV dX11_chooses_226 h hr
theorem zM_ValueBenchModel_chooses_met {l : Launch} {D : va_G} {cz : ClassId × ClassId} {ad : Nat → Nat} (hS : zx_So zM_sd) (hi : zx_I zM_sd ad) {p1 p2 p3 : Int32} {s : zx_S} {s1 : zx_S} (h : zM_ValueBenchModel_chooses p1 p2 p3 s = some s1) : zx_MV zM_sd l D cz ad yX11_chooses cX11_chooses 7 4 94 [.ref (ad 0), .int p1, .int p2, .int p3] s s1 := zx_metV hS hi (by decide +kernel) rfl (Nat.le_of_ble_eq_true rfl) (fun Z e1 e2 e3 e4 C hr => by subst e1 e2 e3 e4; exact zM_ValueBenchModel_chooses_w C p1 p2 p3 s hr h)
set_option maxRecDepth 100000 in
set_option maxHeartbeats 4000000 in
theorem zM_ValueBenchModel_run_L70_w {Z : zx_Z} (C : zx_ok zM_sd Z cX11_run 10 RX11 5 121) {r : Int32 × zx_S} (v1 : Int32) {k91 : zx_S → Option (Int32 × zx_S)} (hr : zx_rI zM_sd Z cX11_run 10 .int r.1 r.2) (h91 : ∀ (s1 : zx_S), k91 s1 = some r → zW zM_sd Z 10 91 [(0, .ref (zz_d Z 0)), (1, .int v1)] [] s1) : ∀ (n : Nat) (v6 : Int32) (s : zx_S), zM_ValueBenchModel_run_L70 v1 k91 n v6 s = some r → zW zM_sd Z 10 70 [(0, .ref (zz_d Z 0)), (1, .int v1), (6, .int v6)] [] s := by
  intro n
  induction n with
  | zero => intro v6 s h; unfold zM_ValueBenchModel_run_L70 at h; cases h
  | succ n ih =>
    intro v6 s h
    unfold zM_ValueBenchModel_run_L70 at h
    refine zr_iload C dX11_run_70 (q := 72) 2 rfl rfl ?_
    refine zr_bipush C dX11_run_72 (q := 74) (v := (10 : Int32)) (by decide) rfl ?_
    refine zr_icmp_ge (tgt := 91) (q := 77) C dX11_run_74 h (by decide) rfl (fun h => ?_) (fun h => ?_)
    · skip
      exact zr_sub [0, 1] rfl (h91 s h)
    · skip
      refine zr_aload_n C dX11_run_77 (q := 78) rfl 0 rfl rfl ?_
      refine zr_get C dX11_run_78 (q := 81) zM_gX11_108_0 rfl ?_
      refine zr_iload C dX11_run_81 (q := 83) 2 rfl rfl ?_
      refine zr_iconst C dX11_run_83 (q := 84) (v := (0 : Int32)) (by decide) rfl ?_
      obtain ⟨hin_84, h⟩ := zx_ck_so h
      refine zr_iast C dX11_run_84 (q := 85) zM_a32 hin_84 rfl ?_
      refine zr_ls h (fun s9 h => ?_)
      refine zr_iinc C dX11_run_85 (q := 88) h (by decide) 2 rfl (by decide) (lw := fun v6_10 => [(6, .int v6_10), (0, .ref (zz_d Z 0)), (1, .int v1)]) (fun _ => rfl) rfl (fun v6_10 h => ?_)
      refine zr_goto (q := 70) C dX11_run_88 (by decide) ?_
      exact zr_sub [1, 2, 0] rfl (ih v6_10 s9 h)
set_option maxRecDepth 100000 in
set_option maxHeartbeats 4000000 in
theorem zM_ValueBenchModel_run_L119_w {Z : zx_Z} (C : zx_ok zM_sd Z cX11_run 10 RX11 5 121) {r : Int32 × zx_S} (v1 v7 : Int32) {k170 : zx_S → Option (Int32 × zx_S)} (hr : zx_rI zM_sd Z cX11_run 10 .int r.1 r.2) (h170 : ∀ (s1 : zx_S), k170 s1 = some r → zW zM_sd Z 10 170 [(0, .ref (zz_d Z 0)), (1, .int v1), (7, .int v7)] [] s1) : ∀ (n : Nat) (v8 : Int32) (s : zx_S), zM_ValueBenchModel_run_L119 v1 v7 k170 n v8 s = some r → zW zM_sd Z 10 119 [(0, .ref (zz_d Z 0)), (1, .int v1), (7, .int v7), (8, .int v8)] [] s := by
  intro n
  induction n with
  | zero => intro v8 s h; unfold zM_ValueBenchModel_run_L119 at h; cases h
  | succ n ih =>
    intro v8 s h
    unfold zM_ValueBenchModel_run_L119 at h
    refine zr_iload C dX11_run_119 (q := 121) 3 rfl rfl ?_
    refine zr_aload_n C dX11_run_121 (q := 122) rfl 0 rfl rfl ?_
    refine zr_get C dX11_run_122 (q := 125) zM_gX11_22_0 rfl ?_
    refine zr_iload C dX11_run_125 (q := 127) 2 rfl rfl ?_
    obtain ⟨hin_127, h⟩ := zx_ck_so h
    refine zr_iald C dX11_run_127 (q := 128) zM_a5 hin_127 rfl ?_
    refine zr_icmp_ge (tgt := 170) (q := 131) C dX11_run_128 h (by decide) rfl (fun h => ?_) (fun h => ?_)
    · skip
      exact zr_sub [0, 1, 2] rfl (h170 s h)
    · skip
      refine zr_aload_n C dX11_run_131 (q := 132) rfl 0 rfl rfl ?_
      refine zr_iload_n C dX11_run_132 (q := 133) rfl 1 rfl rfl ?_
      refine zr_iload C dX11_run_133 (q := 135) 2 rfl rfl ?_
      refine zr_iload C dX11_run_135 (q := 137) 3 rfl rfl ?_
      obtain ⟨r13, hc_137, h⟩ := zx_b1_so h
      refine zr_cvI (q := 140) C (As := [.int v1, .int v7, .int v8]) (k := 0) (rest := []) dX11_run_137 (zM_ValueBenchModel_costs_met C.2.2.2.2.1 C.2.2.2.1 hc_137) zM_vX11_228 zM_o0 ⟨by decide, by decide⟩ rfl (Nat.le_of_ble_eq_true rfl) rfl rfl ?_
      refine zr_if_ne (tgt := 146) (q := 143) C dX11_run_140 h (by decide) rfl (fun h => ?_) (fun h => ?_)
      · skip
        refine zr_aload_n C dX11_run_146 (q := 147) rfl 0 rfl rfl ?_
        obtain ⟨r15, s16, hc_147, h⟩ := zx_b2_so h
        refine zr_cvI (q := 150) C (As := []) (k := 0) (rest := []) dX11_run_147 (zM_ValueBenchModel_takes_met C.2.2.2.2.1 C.2.2.2.1 hc_147) zM_vX11_231 zM_o0 ⟨by decide, by decide⟩ rfl (Nat.le_of_ble_eq_true rfl) rfl rfl ?_
        refine zr_if_ne (tgt := 155) (q := 153) C dX11_run_150 h (by decide) rfl (fun h => ?_) (fun h => ?_)
        · skip
          refine zr_aload_n C dX11_run_155 (q := 156) rfl 0 rfl rfl ?_
          refine zr_iload_n C dX11_run_156 (q := 157) rfl 1 rfl rfl ?_
          refine zr_iload C dX11_run_157 (q := 159) 2 rfl rfl ?_
          refine zr_iload C dX11_run_159 (q := 161) 3 rfl rfl ?_
          obtain ⟨s17, hc_161, h⟩ := zx_b1_so h
          refine zr_cvV (q := 164) C (As := [.int v1, .int v7, .int v8]) (k := 0) (rest := []) dX11_run_161 (zM_ValueBenchModel_acts_met C.2.2.2.2.1 C.2.2.2.1 hc_161) zM_vX11_235 zM_o0 ⟨by decide, by decide⟩ rfl (Nat.le_of_ble_eq_true rfl) rfl rfl ?_
          refine zr_iinc C dX11_run_164 (q := 167) h (by decide) 3 rfl (by decide) (lw := fun v8_18 => [(8, .int v8_18), (0, .ref (zz_d Z 0)), (1, .int v1), (7, .int v7)]) (fun _ => rfl) rfl (fun v8_18 h => ?_)
          refine zr_goto (q := 119) C dX11_run_167 (by decide) ?_
          exact zr_sub [1, 2, 3, 0] rfl (ih v8_18 s17 h)
        · skip
          refine zr_iconst C dX11_run_153 (q := 154) (v := (1 : Int32)) (by decide) rfl ?_
          exact zr_retI dX11_run_154 h hr
      · skip
        refine zr_goto (q := 164) C dX11_run_143 (by decide) ?_
        refine zr_iinc C dX11_run_164 (q := 167) h (by decide) 3 rfl (by decide) (lw := fun v8_14 => [(8, .int v8_14), (0, .ref (zz_d Z 0)), (1, .int v1), (7, .int v7)]) (fun _ => rfl) rfl (fun v8_14 h => ?_)
        refine zr_goto (q := 119) C dX11_run_167 (by decide) ?_
        exact zr_sub [1, 2, 3, 0] rfl (ih v8_14 s h)
set_option maxRecDepth 100000 in
set_option maxHeartbeats 4000000 in
theorem zM_ValueBenchModel_run_J248_w {Z : zx_Z} (C : zx_ok zM_sd Z cX11_run 10 RX11 5 121) {r : Int32 × zx_S} (v1 v7 v8 t0 : Int32) (s : zx_S) {k97 : Int32 → Int32 → zx_S → Option (Int32 × zx_S)} {k255 : Int32 → zx_S → Option (Int32 × zx_S)} (hr : zx_rI zM_sd Z cX11_run 10 .int r.1 r.2) (h97 : ∀ (a0 : Int32) (a1 : Int32) (s1 : zx_S), k97 a0 a1 s1 = some r → zW zM_sd Z 10 97 [(0, .ref (zz_d Z 0)), (1, .int v1), (6, .int a0), (7, .int a1)] [] s1) (h255 : ∀ (a0 : Int32) (s1 : zx_S), k255 a0 s1 = some r → zW zM_sd Z 10 255 [(0, .ref (zz_d Z 0)), (9, .int a0)] [] s1) (h : zM_ValueBenchModel_run_J248 k97 k255 v1 v7 v8 t0 s = some r) : zW zM_sd Z 10 248 [(0, .ref (zz_d Z 0)), (1, .int v1), (7, .int v7), (8, .int v8)] [.int t0] s := by
  unfold zM_ValueBenchModel_run_J248 at h
  refine zr_istore C dX11_run_248 (q := 250) (by decide) (lv' := [(9, .int t0), (0, .ref (zz_d Z 0)), (1, .int v1), (7, .int v7), (8, .int v8)]) rfl rfl ?_
  refine zr_iload C dX11_run_250 (q := 252) 4 rfl rfl ?_
  refine zr_if_ne (tgt := 263) (q := 255) C dX11_run_252 h (by decide) rfl (fun h => ?_) (fun h => ?_)
  · skip
    refine zr_iload C dX11_run_263 (q := 265) 3 rfl rfl ?_
    refine zr_istore C dX11_run_265 (q := 267) (by decide) (lv' := [(6, .int v7), (9, .int t0), (0, .ref (zz_d Z 0)), (1, .int v1), (7, .int v7), (8, .int v8)]) rfl rfl ?_
    refine zr_iload C dX11_run_267 (q := 269) 1 rfl rfl ?_
    refine zr_if_eq (tgt := 282) (q := 272) C dX11_run_269 h (by decide) rfl (fun h => ?_) (fun h => ?_)
    · skip
      refine zr_aload_n C dX11_run_282 (q := 283) rfl 2 rfl rfl ?_
      refine zr_get C dX11_run_283 (q := 286) zM_gX11_34_0 rfl ?_
      refine zr_iload C dX11_run_286 (q := 288) 4 rfl rfl ?_
      obtain ⟨hin_288, h⟩ := zx_ck_so h
      refine zr_iald C dX11_run_288 (q := 289) zM_a9 hin_288 rfl ?_
      refine zr_top h (fun v7_25 h => ?_)
      refine zr_istore C dX11_run_289 (q := 291) (by decide) (lv' := [(7, .int v7_25), (6, .int v7), (9, .int t0), (0, .ref (zz_d Z 0)), (1, .int v1), (8, .int v8)]) rfl rfl ?_
      refine zr_goto (q := 97) C dX11_run_291 (by decide) ?_
      exact zr_sub [3, 4, 1, 0] rfl (h97 v7 v7_25 s h)
    · skip
      refine zr_aload_n C dX11_run_272 (q := 273) rfl 2 rfl rfl ?_
      refine zr_get C dX11_run_273 (q := 276) zM_gX11_31_0 rfl ?_
      refine zr_iload C dX11_run_276 (q := 278) 4 rfl rfl ?_
      obtain ⟨hin_278, h⟩ := zx_ck_so h
      refine zr_iald C dX11_run_278 (q := 279) zM_a8 hin_278 rfl ?_
      refine zr_goto (q := 289) C dX11_run_279 (by decide) ?_
      refine zr_top h (fun v7_24 h => ?_)
      refine zr_istore C dX11_run_289 (q := 291) (by decide) (lv' := [(7, .int v7_24), (6, .int v7), (9, .int t0), (0, .ref (zz_d Z 0)), (1, .int v1), (8, .int v8)]) rfl rfl ?_
      refine zr_goto (q := 97) C dX11_run_291 (by decide) ?_
      exact zr_sub [3, 4, 1, 0] rfl (h97 v7 v7_24 s h)
  · skip
    exact zr_sub [1, 0] rfl (h255 t0 s h)
set_option maxRecDepth 100000 in
set_option maxHeartbeats 4000000 in
theorem zM_ValueBenchModel_run_J116_w {Z : zx_Z} (C : zx_ok zM_sd Z cX11_run 10 RX11 5 121) {r : Int32 × zx_S} (v1 v7 : Int32) (s : zx_S) {k97 : Int32 → Int32 → zx_S → Option (Int32 × zx_S)} {k255 : Int32 → zx_S → Option (Int32 × zx_S)} (hr : zx_rI zM_sd Z cX11_run 10 .int r.1 r.2) (h97 : ∀ (a0 : Int32) (a1 : Int32) (s1 : zx_S), k97 a0 a1 s1 = some r → zW zM_sd Z 10 97 [(0, .ref (zz_d Z 0)), (1, .int v1), (6, .int a0), (7, .int a1)] [] s1) (h255 : ∀ (a0 : Int32) (s1 : zx_S), k255 a0 s1 = some r → zW zM_sd Z 10 255 [(0, .ref (zz_d Z 0)), (9, .int a0)] [] s1) (h : zM_ValueBenchModel_run_J116 k97 k255 v1 v7 s = some r) : zW zM_sd Z 10 116 [(0, .ref (zz_d Z 0)), (1, .int v1), (7, .int v7)] [] s := by
  unfold zM_ValueBenchModel_run_J116 at h
  refine zr_iconst C dX11_run_116 (q := 117) (v := (0 : Int32)) (by decide) rfl ?_
  refine zr_istore C dX11_run_117 (q := 119) (by decide) (lv' := [(8, .int (0 : Int32)), (0, .ref (zz_d Z 0)), (1, .int v1), (7, .int v7)]) rfl rfl ?_
  refine zr_sub [1, 2, 3, 0] rfl (zM_ValueBenchModel_run_L119_w C v1 v7 hr (fun s19 h => ?_) 10000 (0 : Int32) s h)
  · skip
    refine zr_aload_n C dX11_run_170 (q := 171) rfl 0 rfl rfl ?_
    obtain ⟨r20, s21, hc_171, h⟩ := zx_b2_so h
    refine zr_cvI (q := 174) C (As := []) (k := 0) (rest := []) dX11_run_171 (zM_ValueBenchModel_takes_met C.2.2.2.2.1 C.2.2.2.1 hc_171) zM_vX11_231 zM_o0 ⟨by decide, by decide⟩ rfl (Nat.le_of_ble_eq_true rfl) rfl rfl ?_
    refine zr_if_ne (tgt := 179) (q := 177) C dX11_run_174 h (by decide) rfl (fun h => ?_) (fun h => ?_)
    · skip
      refine zr_aload_n C dX11_run_179 (q := 180) rfl 0 rfl rfl ?_
      refine zr_iload C dX11_run_180 (q := 182) 2 rfl rfl ?_
      obtain ⟨r22, hc_182, h⟩ := zx_b1_so h
      refine zr_cvI (q := 185) C (As := [.int v7]) (k := 0) (rest := []) dX11_run_182 (zM_ValueBenchModel_howOf_met C.2.2.2.2.1 C.2.2.2.1 hc_182) zM_vX11_137 zM_o0 ⟨by decide, by decide⟩ rfl (Nat.le_of_ble_eq_true rfl) rfl rfl ?_
      refine zr_istore C dX11_run_185 (q := 187) (by decide) (lv' := [(8, .int r22), (0, .ref (zz_d Z 0)), (1, .int v1), (7, .int v7)]) rfl rfl ?_
      refine zr_iload C dX11_run_187 (q := 189) 0 rfl rfl ?_
      refine zr_iconst C dX11_run_189 (q := 190) (v := (1 : Int32)) (by decide) rfl ?_
      refine zr_icmp_ne (tgt := 209) (q := 193) C dX11_run_190 h (by decide) rfl (fun h => ?_) (fun h => ?_)
      · skip
        refine zr_iload_n C dX11_run_209 (q := 210) rfl 2 rfl rfl ?_
        refine zr_if_ne (tgt := 227) (q := 213) C dX11_run_210 h (by decide) rfl (fun h => ?_) (fun h => ?_)
        · skip
          refine zr_aload_n C dX11_run_227 (q := 228) rfl 1 rfl rfl ?_
          refine zr_get C dX11_run_228 (q := 231) zM_gX11_111_0 rfl ?_
          refine zr_aload_n C dX11_run_231 (q := 232) rfl 1 rfl rfl ?_
          refine zr_iload C dX11_run_232 (q := 234) 3 rfl rfl ?_
          refine zr_iload_n C dX11_run_234 (q := 235) rfl 2 rfl rfl ?_
          refine zr_iconst C dX11_run_235 (q := 236) (v := (2 : Int32)) (by decide) rfl ?_
          refine zr_icmp_ne (tgt := 243) (q := 239) C dX11_run_236 h (by decide) rfl (fun h => ?_) (fun h => ?_)
          · skip
            refine zr_iconst C dX11_run_243 (q := 244) (v := (0 : Int32)) (by decide) rfl ?_
            obtain ⟨r28, hc_244, h⟩ := zx_b1_so h
            refine zr_cvI (q := 247) C (As := [.int v7, .int (0 : Int32)]) (k := 0) (rest := [.ref (zz_d Z 33)]) dX11_run_244 (zM_ValueBenchModel_reads_met C.2.2.2.2.1 C.2.2.2.1 hc_244) zM_vX11_241 zM_o0 ⟨by decide, by decide⟩ rfl (Nat.le_of_ble_eq_true rfl) rfl rfl ?_
            obtain ⟨hin_247, h⟩ := zx_ck_so h
            refine zr_iald C dX11_run_247 (q := 248) zM_a33 hin_247 rfl ?_
            exact zr_sub [1, 2, 3, 0] rfl (zM_ValueBenchModel_run_J248_w C v1 v7 r22 (s21 33 (r28).toNatClampNeg) s21 hr (h97) (h255) h)
          · skip
            refine zr_iconst C dX11_run_239 (q := 240) (v := (1 : Int32)) (by decide) rfl ?_
            refine zr_goto (q := 244) C dX11_run_240 (by decide) ?_
            obtain ⟨r27, hc_244, h⟩ := zx_b1_so h
            refine zr_cvI (q := 247) C (As := [.int v7, .int (1 : Int32)]) (k := 0) (rest := [.ref (zz_d Z 33)]) dX11_run_244 (zM_ValueBenchModel_reads_met C.2.2.2.2.1 C.2.2.2.1 hc_244) zM_vX11_241 zM_o0 ⟨by decide, by decide⟩ rfl (Nat.le_of_ble_eq_true rfl) rfl rfl ?_
            obtain ⟨hin_247, h⟩ := zx_ck_so h
            refine zr_iald C dX11_run_247 (q := 248) zM_a33 hin_247 rfl ?_
            exact zr_sub [1, 2, 3, 0] rfl (zM_ValueBenchModel_run_J248_w C v1 v7 r22 (s21 33 (r27).toNatClampNeg) s21 hr (h97) (h255) h)
        · skip
          refine zr_aload_n C dX11_run_213 (q := 214) rfl 1 rfl rfl ?_
          refine zr_get C dX11_run_214 (q := 217) zM_gX11_108_0 rfl ?_
          refine zr_aload_n C dX11_run_217 (q := 218) rfl 1 rfl rfl ?_
          refine zr_iload C dX11_run_218 (q := 220) 3 rfl rfl ?_
          obtain ⟨r26, hc_220, h⟩ := zx_b1_so h
          refine zr_cvI (q := 223) C (As := [.int v7]) (k := 0) (rest := [.ref (zz_d Z 32)]) dX11_run_220 (zM_ValueBenchModel_yOf_met C.2.2.2.2.1 C.2.2.2.1 hc_220) zM_vX11_238 zM_o0 ⟨by decide, by decide⟩ rfl (Nat.le_of_ble_eq_true rfl) rfl rfl ?_
          obtain ⟨hin_223, h⟩ := zx_ck_so h
          refine zr_iald C dX11_run_223 (q := 224) zM_a32 hin_223 rfl ?_
          refine zr_goto (q := 248) C dX11_run_224 (by decide) ?_
          exact zr_sub [1, 2, 3, 0] rfl (zM_ValueBenchModel_run_J248_w C v1 v7 r22 (s21 32 (r26).toNatClampNeg) s21 hr (h97) (h255) h)
      · skip
        refine zr_iload C dX11_run_193 (q := 195) 3 rfl rfl ?_
        refine zr_istore C dX11_run_195 (q := 197) (by decide) (lv' := [(6, .int v7), (8, .int r22), (0, .ref (zz_d Z 0)), (1, .int v1), (7, .int v7)]) rfl rfl ?_
        refine zr_aload_n C dX11_run_197 (q := 198) rfl 2 rfl rfl ?_
        refine zr_get C dX11_run_198 (q := 201) zM_gX11_31_0 rfl ?_
        refine zr_iload C dX11_run_201 (q := 203) 4 rfl rfl ?_
        obtain ⟨hin_203, h⟩ := zx_ck_so h
        refine zr_iald C dX11_run_203 (q := 204) zM_a8 hin_203 rfl ?_
        refine zr_top h (fun v7_23 h => ?_)
        refine zr_istore C dX11_run_204 (q := 206) (by decide) (lv' := [(7, .int v7_23), (6, .int v7), (8, .int r22), (0, .ref (zz_d Z 0)), (1, .int v1)]) rfl rfl ?_
        refine zr_goto (q := 97) C dX11_run_206 (by decide) ?_
        exact zr_sub [3, 4, 1, 0] rfl (h97 v7 v7_23 s21 h)
    · skip
      refine zr_iconst C dX11_run_177 (q := 178) (v := (1 : Int32)) (by decide) rfl ?_
      exact zr_retI dX11_run_178 h hr
set_option maxRecDepth 100000 in
set_option maxHeartbeats 4000000 in
theorem zM_ValueBenchModel_run_L97_w {Z : zx_Z} (C : zx_ok zM_sd Z cX11_run 10 RX11 5 121) {r : Int32 × zx_S} (v1 : Int32) {k255 : Int32 → zx_S → Option (Int32 × zx_S)} (hr : zx_rI zM_sd Z cX11_run 10 .int r.1 r.2) (h255 : ∀ (a0 : Int32) (s1 : zx_S), k255 a0 s1 = some r → zW zM_sd Z 10 255 [(0, .ref (zz_d Z 0)), (9, .int a0)] [] s1) : ∀ (n : Nat) (v6 : Int32) (v7 : Int32) (s : zx_S), zM_ValueBenchModel_run_L97 v1 k255 n v6 v7 s = some r → zW zM_sd Z 10 97 [(0, .ref (zz_d Z 0)), (1, .int v1), (6, .int v6), (7, .int v7)] [] s := by
  intro n
  induction n with
  | zero => intro v6 v7 s h; unfold zM_ValueBenchModel_run_L97 at h; cases h
  | succ n ih =>
    intro v6 v7 s h
    unfold zM_ValueBenchModel_run_L97 at h
    refine zr_aload_n C dX11_run_97 (q := 98) rfl 0 rfl rfl ?_
    refine zr_iload C dX11_run_98 (q := 100) 3 rfl rfl ?_
    refine zr_put C dX11_run_100 (q := 103) zM_pX11_221_0 rfl rfl rfl ?_
    refine zr_ls h (fun s12 h => ?_)
    refine zr_iload_n C dX11_run_103 (q := 104) rfl 1 rfl rfl ?_
    refine zr_if_le (tgt := 116) (q := 107) C dX11_run_104 h (by decide) rfl (fun h => ?_) (fun h => ?_)
    · skip
      exact zr_sub [0, 1, 3] rfl (zM_ValueBenchModel_run_J116_w C v1 v7 s12 hr (ih) (h255) h)
    · skip
      refine zr_aload_n C dX11_run_107 (q := 108) rfl 0 rfl rfl ?_
      refine zr_iload_n C dX11_run_108 (q := 109) rfl 1 rfl rfl ?_
      refine zr_iload C dX11_run_109 (q := 111) 3 rfl rfl ?_
      refine zr_iload C dX11_run_111 (q := 113) 2 rfl rfl ?_
      obtain ⟨s29, hc_113, h⟩ := zx_b1_so h
      refine zr_cvV (q := 116) C (As := [.int v1, .int v7, .int v6]) (k := 0) (rest := []) dX11_run_113 (zM_ValueBenchModel_chooses_met C.2.2.2.2.1 C.2.2.2.1 hc_113) zM_vX11_224 zM_o0 ⟨by decide, by decide⟩ rfl (Nat.le_of_ble_eq_true rfl) rfl rfl ?_
      exact zr_sub [0, 1, 3] rfl (zM_ValueBenchModel_run_J116_w C v1 v7 s29 hr (ih) (h255) h)
set_option maxRecDepth 100000 in
set_option maxHeartbeats 4000000 in
theorem zM_ValueBenchModel_run_w {Z : zx_Z} (C : zx_ok zM_sd Z cX11_run 10 RX11 5 121) {r : Int32 × zx_S} (p1 p2 p3 p4 p5 : Int32) (s : zx_S) (hr : zx_rI zM_sd Z cX11_run 10 .int r.1 r.2) (h : zM_ValueBenchModel_run p1 p2 p3 p4 p5 s = some r) : zW zM_sd Z 10 0 [(0, .ref (zz_d Z 0)), (1, .int p1), (2, .int p2), (3, .int p3), (4, .int p4), (5, .int p5)] [] s := by
  unfold zM_ValueBenchModel_run at h
  refine zr_iload_n C dX11_run_0 (q := 1) rfl 1 rfl rfl ?_
  refine zr_if_lt (tgt := 16) (q := 4) C dX11_run_1 h (by decide) rfl (fun h => ?_) (fun h => ?_)
  · skip
    refine zr_iconst C dX11_run_16 (q := 17) (v := (-1 : Int32)) (by decide) rfl ?_
    exact zr_retI dX11_run_17 h hr
  · skip
    refine zr_iload_n C dX11_run_4 (q := 5) rfl 1 rfl rfl ?_
    refine zr_iconst C dX11_run_5 (q := 6) (v := (2 : Int32)) (by decide) rfl ?_
    refine zr_icmp_gt (tgt := 16) (q := 9) C dX11_run_6 h (by decide) rfl (fun h => ?_) (fun h => ?_)
    · skip
      refine zr_iconst C dX11_run_16 (q := 17) (v := (-1 : Int32)) (by decide) rfl ?_
      exact zr_retI dX11_run_17 h hr
    · skip
      refine zr_aload_n C dX11_run_9 (q := 10) rfl 0 rfl rfl ?_
      refine zr_get C dX11_run_10 (q := 13) zM_gX11_120_0 rfl ?_
      refine zr_if_ne (tgt := 18) (q := 16) C dX11_run_13 h (by decide) rfl (fun h => ?_) (fun h => ?_)
      · skip
        refine zr_aload_n C dX11_run_18 (q := 19) rfl 0 rfl rfl ?_
        obtain ⟨s1, hc_19, h⟩ := zx_b1_so h
        refine zr_cvV (q := 22) C (As := []) (k := 0) (rest := []) dX11_run_19 (zM_ValueBenchModel_make_met C.2.2.2.2.1 C.2.2.2.1 hc_19) zM_vX11_215 zM_o0 ⟨by decide, by decide⟩ rfl (Nat.le_of_ble_eq_true rfl) rfl rfl ?_
        refine zr_aload_n C dX11_run_22 (q := 23) rfl 0 rfl rfl ?_
        refine zr_get C dX11_run_23 (q := 26) zM_gX11_117_0 rfl ?_
        refine zr_iconst C dX11_run_26 (q := 27) (v := (0 : Int32)) (by decide) rfl ?_
        refine zr_iload_n C dX11_run_27 (q := 28) rfl 2 rfl rfl ?_
        obtain ⟨hin_28, h⟩ := zx_ck_so h
        refine zr_iast C dX11_run_28 (q := 29) zM_a35 hin_28 rfl ?_
        refine zr_ls h (fun s2 h => ?_)
        refine zr_aload_n C dX11_run_29 (q := 30) rfl 0 rfl rfl ?_
        refine zr_get C dX11_run_30 (q := 33) zM_gX11_117_0 rfl ?_
        refine zr_iconst C dX11_run_33 (q := 34) (v := (1 : Int32)) (by decide) rfl ?_
        refine zr_iload_n C dX11_run_34 (q := 35) rfl 3 rfl rfl ?_
        obtain ⟨hin_35, h⟩ := zx_ck_so h
        refine zr_iast C dX11_run_35 (q := 36) zM_a35 hin_35 rfl ?_
        refine zr_ls h (fun s3 h => ?_)
        refine zr_aload_n C dX11_run_36 (q := 37) rfl 0 rfl rfl ?_
        refine zr_get C dX11_run_37 (q := 40) zM_gX11_117_0 rfl ?_
        refine zr_iconst C dX11_run_40 (q := 41) (v := (2 : Int32)) (by decide) rfl ?_
        refine zr_iload C dX11_run_41 (q := 43) 4 rfl rfl ?_
        obtain ⟨hin_43, h⟩ := zx_ck_so h
        refine zr_iast C dX11_run_43 (q := 44) zM_a35 hin_43 rfl ?_
        refine zr_ls h (fun s4 h => ?_)
        refine zr_aload_n C dX11_run_44 (q := 45) rfl 0 rfl rfl ?_
        refine zr_get C dX11_run_45 (q := 48) zM_gX11_117_0 rfl ?_
        refine zr_iconst C dX11_run_48 (q := 49) (v := (3 : Int32)) (by decide) rfl ?_
        refine zr_iload C dX11_run_49 (q := 51) 5 rfl rfl ?_
        obtain ⟨hin_51, h⟩ := zx_ck_so h
        refine zr_iast C dX11_run_51 (q := 52) zM_a35 hin_51 rfl ?_
        refine zr_ls h (fun s5 h => ?_)
        refine zr_aload_n C dX11_run_52 (q := 53) rfl 0 rfl rfl ?_
        refine zr_iconst C dX11_run_53 (q := 54) (v := (0 : Int32)) (by decide) rfl ?_
        refine zr_put C dX11_run_54 (q := 57) zM_pX11_218_0 rfl rfl rfl ?_
        refine zr_ls h (fun s6 h => ?_)
        refine zr_aload_n C dX11_run_57 (q := 58) rfl 0 rfl rfl ?_
        refine zr_iconst C dX11_run_58 (q := 59) (v := (0 : Int32)) (by decide) rfl ?_
        refine zr_put C dX11_run_59 (q := 62) zM_pX11_212_0 rfl rfl rfl ?_
        refine zr_ls h (fun s7 h => ?_)
        refine zr_aload_n C dX11_run_62 (q := 63) rfl 0 rfl rfl ?_
        refine zr_iconst C dX11_run_63 (q := 64) (v := (0 : Int32)) (by decide) rfl ?_
        refine zr_put C dX11_run_64 (q := 67) zM_pX11_209_0 rfl rfl rfl ?_
        refine zr_ls h (fun s8 h => ?_)
        refine zr_iconst C dX11_run_67 (q := 68) (v := (0 : Int32)) (by decide) rfl ?_
        refine zr_istore C dX11_run_68 (q := 70) (by decide) (lv' := [(6, .int (0 : Int32)), (0, .ref (zz_d Z 0)), (1, .int p1), (2, .int p2), (3, .int p3), (4, .int p4), (5, .int p5)]) rfl rfl ?_
        refine zr_sub [1, 2, 0] rfl (zM_ValueBenchModel_run_L70_w C p1 hr (fun s11 h => ?_) 10000 (0 : Int32) s8 h)
        · skip
          refine zr_iconst C dX11_run_91 (q := 92) (v := (-1 : Int32)) (by decide) rfl ?_
          refine zr_istore C dX11_run_92 (q := 94) (by decide) (lv' := [(6, .int (-1 : Int32)), (0, .ref (zz_d Z 0)), (1, .int p1)]) rfl rfl ?_
          refine zr_iconst C dX11_run_94 (q := 95) (v := (0 : Int32)) (by decide) rfl ?_
          refine zr_istore C dX11_run_95 (q := 97) (by decide) (lv' := [(7, .int (0 : Int32)), (6, .int (-1 : Int32)), (0, .ref (zz_d Z 0)), (1, .int p1)]) rfl rfl ?_
          refine zr_sub [2, 3, 1, 0] rfl (zM_ValueBenchModel_run_L97_w C p1 hr (fun v9_30 s31 h => ?_) 10000 (-1 : Int32) (0 : Int32) s11 h)
          · skip
            refine zr_aload_n C dX11_run_255 (q := 256) rfl 0 rfl rfl ?_
            refine zr_iload C dX11_run_256 (q := 258) 1 rfl rfl ?_
            refine zr_put C dX11_run_258 (q := 261) zM_pX11_218_0 rfl rfl rfl ?_
            refine zr_ls h (fun s32 h => ?_)
            refine zr_iconst C dX11_run_261 (q := 262) (v := (0 : Int32)) (by decide) rfl ?_
            exact zr_retI dX11_run_262 h hr
      · skip
        refine zr_iconst C dX11_run_16 (q := 17) (v := (-1 : Int32)) (by decide) rfl ?_
        exact zr_retI dX11_run_17 h hr
theorem zM_ValueBenchModel_run_met {l : Launch} {D : va_G} {cz : ClassId × ClassId} {ad : Nat → Nat} (hS : zx_So zM_sd) (hi : zx_I zM_sd ad) {p1 p2 p3 p4 p5 : Int32} {s : zx_S} {v : Int32} {s1 : zx_S} (h : zM_ValueBenchModel_run p1 p2 p3 p4 p5 s = some (v, s1)) : zx_MI zM_sd l D cz ad yX11_run cX11_run 10 .int 5 121 [.ref (ad 0), .int p1, .int p2, .int p3, .int p4, .int p5] s v s1 := zx_metI hS hi (by decide +kernel) rfl (Nat.le_of_ble_eq_true rfl) (fun Z e1 e2 e3 e4 C hr => by subst e1 e2 e3 e4; exact zM_ValueBenchModel_run_w (r := (v, s1)) C p1 p2 p3 p4 p5 s hr h)
set_option maxRecDepth 100000 in
set_option maxHeartbeats 4000000 in
theorem zM_ValueBenchModel_fuel_w {Z : zx_Z} (C : zx_ok zM_sd Z cX11_fuel 3 RX11 0 0) {r : Int32 × zx_S} (p1 : Int32) (s : zx_S) (hr : zx_rI zM_sd Z cX11_fuel 3 .int r.1 r.2) (h : zM_ValueBenchModel_fuel p1 s = some r) : zW zM_sd Z 3 0 [(0, .ref (zz_d Z 0)), (1, .int p1)] [] s := by
  unfold zM_ValueBenchModel_fuel at h
  refine zr_iload_n C dX11_fuel_0 (q := 1) rfl 1 rfl rfl ?_
  refine zr_iconst C dX11_fuel_1 (q := 2) (v := (1 : Int32)) (by decide) rfl ?_
  refine zr_icmp_lt (tgt := 12) (q := 5) C dX11_fuel_2 h (by decide) rfl (fun h => ?_) (fun h => ?_)
  · skip
    refine zr_iconst C dX11_fuel_12 (q := 13) (v := (-1 : Int32)) (by decide) rfl ?_
    exact zr_retI dX11_fuel_13 h hr
  · skip
    refine zr_iload_n C dX11_fuel_5 (q := 6) rfl 1 rfl rfl ?_
    refine zr_sipush C dX11_fuel_6 (q := 9) (v := (5000 : Int32)) (by decide) rfl ?_
    refine zr_icmp_le (tgt := 14) (q := 12) C dX11_fuel_9 h (by decide) rfl (fun h => ?_) (fun h => ?_)
    · skip
      refine zr_aload_n C dX11_fuel_14 (q := 15) rfl 0 rfl rfl ?_
      refine zr_get C dX11_fuel_15 (q := 18) zM_gX11_101_0 rfl ?_
      refine zr_top h (fun v2_1 h => ?_)
      refine zr_istore_n C dX11_fuel_18 (q := 19) rfl (by decide) (lv' := [(2, .int v2_1), (0, .ref (zz_d Z 0)), (1, .int p1)]) rfl rfl ?_
      refine zr_aload_n C dX11_fuel_19 (q := 20) rfl 1 rfl rfl ?_
      refine zr_iload_n C dX11_fuel_20 (q := 21) rfl 2 rfl rfl ?_
      refine zr_put C dX11_fuel_21 (q := 24) zM_pX11_101_0 rfl rfl rfl ?_
      refine zr_ls h (fun s2 h => ?_)
      refine zr_iload_n C dX11_fuel_24 (q := 25) rfl 0 rfl rfl ?_
      exact zr_retI dX11_fuel_25 h hr
    · skip
      refine zr_iconst C dX11_fuel_12 (q := 13) (v := (-1 : Int32)) (by decide) rfl ?_
      exact zr_retI dX11_fuel_13 h hr
theorem zM_ValueBenchModel_fuel_met {l : Launch} {D : va_G} {cz : ClassId × ClassId} {ad : Nat → Nat} (hS : zx_So zM_sd) (hi : zx_I zM_sd ad) {p1 : Int32} {s : zx_S} {v : Int32} {s1 : zx_S} (h : zM_ValueBenchModel_fuel p1 s = some (v, s1)) : zx_MI zM_sd l D cz ad yX11_fuel cX11_fuel 3 .int 0 0 [.ref (ad 0), .int p1] s v s1 := zx_metI hS hi (by decide +kernel) rfl (Nat.le_of_ble_eq_true rfl) (fun Z e1 e2 e3 e4 C hr => by subst e1 e2 e3 e4; exact zM_ValueBenchModel_fuel_w (r := (v, s1)) C p1 s hr h)
set_option maxRecDepth 100000 in
set_option maxHeartbeats 4000000 in
theorem zM_ValueBenchModel_ran_w {Z : zx_Z} (C : zx_ok zM_sd Z cX11_ran 2 RX11 0 0) {r : Int32} (p1 : Int32) (s : zx_S) (hr : zx_rI zM_sd Z cX11_ran 2 .int r s) (h : zM_ValueBenchModel_ran p1 s = some r) : zW zM_sd Z 2 0 [(0, .ref (zz_d Z 0)), (1, .int p1)] [] s := by
  unfold zM_ValueBenchModel_ran at h
  refine zr_iload_n C dX11_ran_0 (q := 1) rfl 1 rfl rfl ?_
  by_cases e0 : p1 = (0 : Int32)
  · rw [if_pos e0] at h
    refine zr_tableIn (tgt := 32) (off := 31) C dX11_ran_1 (by rw [e0]; decide) (by rw [e0]; decide) (by rw [e0] <;> exact rfl) (by decide) ?_
    refine zr_aload_n C dX11_ran_32 (q := 33) rfl 0 rfl rfl ?_
    refine zr_get C dX11_ran_33 (q := 36) zM_gX11_218_0 rfl ?_
    exact zr_retR dX11_ran_36 h hr
  · rw [if_neg e0] at h
    by_cases e1 : p1 = (1 : Int32)
    · rw [if_pos e1] at h
      refine zr_tableIn (tgt := 37) (off := 36) C dX11_ran_1 (by rw [e1]; decide) (by rw [e1]; decide) (by rw [e1] <;> exact rfl) (by decide) ?_
      refine zr_aload_n C dX11_ran_37 (q := 38) rfl 0 rfl rfl ?_
      refine zr_get C dX11_ran_38 (q := 41) zM_gX11_212_0 rfl ?_
      exact zr_retR dX11_ran_41 h hr
    · rw [if_neg e1] at h
      by_cases e2 : p1 = (2 : Int32)
      · rw [if_pos e2] at h
        refine zr_tableIn (tgt := 42) (off := 41) C dX11_ran_1 (by rw [e2]; decide) (by rw [e2]; decide) (by rw [e2] <;> exact rfl) (by decide) ?_
        refine zr_aload_n C dX11_ran_42 (q := 43) rfl 0 rfl rfl ?_
        refine zr_get C dX11_ran_43 (q := 46) zM_gX11_209_0 rfl ?_
        exact zr_retR dX11_ran_46 h hr
      · rw [if_neg e2] at h
        by_cases e3 : p1 = (3 : Int32)
        · rw [if_pos e3] at h
          refine zr_tableIn (tgt := 47) (off := 46) C dX11_ran_1 (by rw [e3]; decide) (by rw [e3]; decide) (by rw [e3] <;> exact rfl) (by decide) ?_
          refine zr_aload_n C dX11_ran_47 (q := 48) rfl 0 rfl rfl ?_
          refine zr_get C dX11_ran_48 (q := 51) zM_gX11_221_0 rfl ?_
          exact zr_retR dX11_ran_51 h hr
        · rw [if_neg e3] at h
          refine zr_tableOut (tgt := 52) C dX11_ran_1 (by have f0 := lv_neT (a := 0) e0 (by decide); have f1 := lv_neT (a := 1) e1 (by decide); have f2 := lv_neT (a := 2) e2 (by decide); have f3 := lv_neT (a := 3) e3 (by decide); omega) (by decide) ?_
          refine zr_iconst C dX11_ran_52 (q := 53) (v := (0 : Int32)) (by decide) rfl ?_
          exact zr_retR dX11_ran_53 h hr
theorem zM_ValueBenchModel_ran_met {l : Launch} {D : va_G} {cz : ClassId × ClassId} {ad : Nat → Nat} (hS : zx_So zM_sd) (hi : zx_I zM_sd ad) {p1 : Int32} {s : zx_S} {v : Int32} (h : zM_ValueBenchModel_ran p1 s = some v) : zx_MI zM_sd l D cz ad yX11_ran cX11_ran 2 .int 0 0 [.ref (ad 0), .int p1] s v s := zx_metI hS hi (by decide +kernel) rfl (Nat.le_of_ble_eq_true rfl) (fun Z e1 e2 e3 e4 C hr => by subst e1 e2 e3 e4; exact zM_ValueBenchModel_ran_w C p1 s hr h)
set_option maxRecDepth 100000 in
set_option maxHeartbeats 4000000 in
theorem zM_ValueBenchModel_emitted_w {Z : zx_Z} (C : zx_ok zM_sd Z cX11_emitted 2 RX11 0 0) {r : Int32} (p1 : Int32) (s : zx_S) (hr : zx_rI zM_sd Z cX11_emitted 2 .int r s) (h : zM_ValueBenchModel_emitted p1 s = some r) : zW zM_sd Z 2 0 [(0, .ref (zz_d Z 0)), (1, .int p1)] [] s := by
  unfold zM_ValueBenchModel_emitted at h
  refine zr_iload_n C dX11_emitted_0 (q := 1) rfl 1 rfl rfl ?_
  refine zr_if_lt (tgt := 27) (q := 4) C dX11_emitted_1 h (by decide) rfl (fun h => ?_) (fun h => ?_)
  · skip
    refine zr_iconst C dX11_emitted_27 (q := 28) (v := (0 : Int32)) (by decide) rfl ?_
    exact zr_retR dX11_emitted_28 h hr
  · skip
    refine zr_iload_n C dX11_emitted_4 (q := 5) rfl 1 rfl rfl ?_
    refine zr_aload_n C dX11_emitted_5 (q := 6) rfl 0 rfl rfl ?_
    refine zr_get C dX11_emitted_6 (q := 9) zM_gX11_209_0 rfl ?_
    refine zr_icmp_ge (tgt := 27) (q := 12) C dX11_emitted_9 h (by decide) rfl (fun h => ?_) (fun h => ?_)
    · skip
      refine zr_iconst C dX11_emitted_27 (q := 28) (v := (0 : Int32)) (by decide) rfl ?_
      exact zr_retR dX11_emitted_28 h hr
    · skip
      refine zr_iload_n C dX11_emitted_12 (q := 13) rfl 1 rfl rfl ?_
      refine zr_bipush C dX11_emitted_13 (q := 15) (v := (60 : Int32)) (by decide) rfl ?_
      refine zr_icmp_ge (tgt := 27) (q := 18) C dX11_emitted_15 h (by decide) rfl (fun h => ?_) (fun h => ?_)
      · skip
        refine zr_iconst C dX11_emitted_27 (q := 28) (v := (0 : Int32)) (by decide) rfl ?_
        exact zr_retR dX11_emitted_28 h hr
      · skip
        refine zr_aload_n C dX11_emitted_18 (q := 19) rfl 0 rfl rfl ?_
        refine zr_get C dX11_emitted_19 (q := 22) zM_gX11_105_0 rfl ?_
        refine zr_iload_n C dX11_emitted_22 (q := 23) rfl 1 rfl rfl ?_
        obtain ⟨hin_23, h⟩ := zx_ck_so h
        refine zr_iald C dX11_emitted_23 (q := 24) zM_a31 hin_23 rfl ?_
        refine zr_goto (q := 28) C dX11_emitted_24 (by decide) ?_
        exact zr_retR dX11_emitted_28 h hr
theorem zM_ValueBenchModel_emitted_met {l : Launch} {D : va_G} {cz : ClassId × ClassId} {ad : Nat → Nat} (hS : zx_So zM_sd) (hi : zx_I zM_sd ad) {p1 : Int32} {s : zx_S} {v : Int32} (h : zM_ValueBenchModel_emitted p1 s = some v) : zx_MI zM_sd l D cz ad yX11_emitted cX11_emitted 2 .int 0 0 [.ref (ad 0), .int p1] s v s := zx_metI hS hi (by decide +kernel) rfl (Nat.le_of_ble_eq_true rfl) (fun Z e1 e2 e3 e4 C hr => by subst e1 e2 e3 e4; exact zM_ValueBenchModel_emitted_w C p1 s hr h)
