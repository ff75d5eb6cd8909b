def zX_L (cz : ClassId × ClassId) (ad : Nat → Nat) (k : Nat) (f : Nat → Int32) : va_E := match k with
  | 0 => .inr (9, [.ref (ad 1), .ref (ad 11), .ref (ad 18), .ref (ad 33), .ref (ad 36), .ref (ad 42), .ref (ad 44), .ref (ad 47), .ref (ad 50), .int (f 9)])
  | 1 => .inr (4, [.ref (ad 2), .ref (ad 3), .ref (ad 4), .ref (ad 5), .ref (ad 6), .ref (ad 7), .ref (ad 8), .ref (ad 9), .ref (ad 10), .int (f 9)])
  | 2 => .inl (cz.1, 17, .inl f)
  | 3 => .inl (cz.1, 100, .inl f)
  | 4 => .inl (cz.1, 100, .inl f)
  | 5 => .inl (cz.1, 100, .inl f)
  | 6 => .inl (cz.1, 100, .inl f)
  | 7 => .inl (cz.1, 16, .inl f)
  | 8 => .inl (cz.1, 16, .inl f)
  | 9 => .inl (cz.1, 16, .inl f)
  | 10 => .inl (cz.1, 16, .inl f)
  | 11 => .inr (1, [.ref (ad 12), .ref (ad 13), .ref (ad 14), .ref (ad 15), .ref (ad 16), .ref (ad 17), .int (f 6)])
  | 12 => .inl (cz.1, 16, .inl f)
  | 13 => .inl (cz.1, 16, .inl f)
  | 14 => .inl (cz.1, 16, .inl f)
  | 15 => .inl (cz.1, 16, .inl f)
  | 16 => .inl (cz.1, 16, .inl f)
  | 17 => .inl (cz.1, 16, .inl f)
  | 18 => .inr (8, [.ref (ad 19), .ref (ad 20), .ref (ad 21), .ref (ad 22), .ref (ad 23), .ref (ad 24), .ref (ad 28), .ref (ad 29), .ref (ad 30), .ref (ad 31), .ref (ad 32), .int (f 11)])
  | 19 => .inl (cz.1, 261, .inl f)
  | 20 => .inl (cz.1, 261, .inl f)
  | 21 => .inl (cz.1, 261, .inl f)
  | 22 => .inl (cz.1, 261, .inl f)
  | 23 => .inl (cz.1, 262, .inl f)
  | 24 => .inr (5, [.ref (ad 25), .ref (ad 26), .ref (ad 27)])
  | 25 => .inl (cz.1, 530, .inl f)
  | 26 => .inl (cz.1, 100, .inl f)
  | 27 => .inl (cz.1, 16, .inl f)
  | 28 => .inl (cz.1, 100, .inl f)
  | 29 => .inl (cz.1, 16, .inl f)
  | 30 => .inl (cz.1, 16, .inl f)
  | 31 => .inl (cz.1, 10, .inl f)
  | 32 => .inl (cz.1, 160, .inl f)
  | 33 => .inr (0, [.ref (ad 34), .ref (ad 35), .int (f 2)])
  | 34 => .inl (cz.1, 261, .inl f)
  | 35 => .inl (cz.1, 261, .inl f)
  | 36 => .inr (2, [.ref (ad 37), .ref (ad 38), .int (f 2)])
  | 37 => .inl (cz.2, 261, .inl f)
  | 38 => .inr (5, [.ref (ad 39), .ref (ad 40), .ref (ad 41)])
  | 39 => .inl (cz.1, 530, .inl f)
  | 40 => .inl (cz.1, 100, .inl f)
  | 41 => .inl (cz.1, 16, .inl f)
  | 42 => .inr (6, [.ref (ad 43), .ref (ad 1)])
  | 43 => .inl (cz.1, 10, .inl f)
  | 44 => .inr (7, [.ref (ad 45), .ref (ad 1), .ref (ad 11), .ref (ad 18), .null, .ref (ad 24), .ref (ad 46)])
  | 45 => .inl (cz.1, 261, .inl f)
  | 46 => .inl (cz.1, 10, .inl f)
  | 47 => .inr (7, [.ref (ad 48), .ref (ad 1), .ref (ad 11), .ref (ad 18), .ref (ad 36), .ref (ad 38), .ref (ad 49)])
  | 48 => .inl (cz.1, 261, .inl f)
  | 49 => .inl (cz.1, 10, .inl f)
  | 50 => .inr (3, [.ref (ad 1), .ref (ad 51), .ref (ad 52), .int (f 3), .int (f 4), .int (f 5), .int (f 6), .int (f 7)])
  | 51 => .inl (cz.1, 4, .inl f)
  | _ => .inl (cz.1, 60, .inl f)
def zX_sd : zx_D := (zX_L, 53, zx_cl, zx_W, zx_N)
theorem zX_So : zx_So zX_sd := ⟨fun w h => (List.mem_filter.mp h).2, zx_N_ok⟩
theorem zX_gX10_12_0 : zx_fl zX_sd RX10 12 0 0 (fun ad _ => .ref (ad 1)) := ⟨by decide, 9, _, _, _, _, rfl, by decide, zu_X10, zw_403, Or.inl rfl, fun _ _ _ => ⟨_, rfl, rfl⟩⟩
theorem zX_gX10_75_1 : zx_fl zX_sd RX10 75 1 9 (fun _ f => .int (f 9)) := ⟨by decide, 4, _, _, _, _, rfl, by decide, zu_X5, zw_115, Or.inl rfl, fun _ _ _ => ⟨_, rfl, rfl⟩⟩
theorem zX_pX10_71_0 : zx_fp zX_sd RX10 71 0 9 .boolean := ⟨by decide, 9, _, _, _, tyX10, rfl, by decide, zu_X10, tyX10_ok, nmX10, zw_412, rfl, by decide +kernel, fun _ _ _ => ⟨_, rfl, Nat.le_of_ble_eq_true rfl, fun _ => rfl⟩⟩
theorem zX_pX10_75_1 : zx_fp zX_sd RX10 75 1 9 .int := ⟨by decide, 4, _, _, _, tyX5, rfl, by decide, zu_X5, tyX5_ok, nmX5, zw_115, rfl, by decide +kernel, fun _ _ _ => ⟨_, rfl, Nat.le_of_ble_eq_true rfl, fun _ => rfl⟩⟩
theorem zX_gX5_46_1 : zx_fl zX_sd RX5 46 1 9 (fun _ f => .int (f 9)) := ⟨by decide, 4, _, _, _, _, rfl, by decide, zu_X5, zw_116, Or.inl rfl, fun _ _ _ => ⟨_, rfl, rfl⟩⟩
theorem zX_gX5_9_1 : zx_fl zX_sd RX5 9 1 0 (fun ad _ => .ref (ad 2)) := ⟨by decide, 4, _, _, _, _, rfl, by decide, zu_X5, zw_91, Or.inl rfl, fun _ _ _ => ⟨_, rfl, rfl⟩⟩
theorem zX_a2 : zx_ai zX_sd 2 17 := ⟨by decide, fun _ _ _ => rfl⟩
theorem zX_sX5_39 : zx_sw zX_sd RX5 39 yX5_isVariable cX5_isVariable 1 (some .boolean) 1 := ⟨zw_453, zw_454, zw_63, zw_455, by decide +kernel⟩
theorem zX_a3 : zx_ai zX_sd 3 100 := ⟨by decide, fun _ _ _ => rfl⟩
theorem zX_a4 : zx_ai zX_sd 4 100 := ⟨by decide, fun _ _ _ => rfl⟩
theorem zX_a5 : zx_ai zX_sd 5 100 := ⟨by decide, fun _ _ _ => rfl⟩
theorem zX_a6 : zx_ai zX_sd 6 100 := ⟨by decide, fun _ _ _ => rfl⟩
theorem zX_vX5_50 : zx_vw zX_sd RX5 50 yX5_instructions cX5_instructions 1 (some .int) 0 := ⟨zw_460, zw_447, zw_448, zw_63, zw_449, by decide +kernel⟩
theorem zX_o1 : zx_oc zX_sd 1 RX5 := ⟨by decide, 4, _, _, rfl, fun _ _ _ => ⟨_, rfl⟩⟩
theorem zX_gX5_15_1 : zx_fl zX_sd RX5 15 1 1 (fun ad _ => .ref (ad 3)) := ⟨by decide, 4, _, _, _, _, rfl, by decide, zu_X5, zw_96, Or.inl rfl, fun _ _ _ => ⟨_, rfl, rfl⟩⟩
theorem zX_sX5_54 : zx_sw zX_sd RX5 54 yX5_insertAt cX5_insertAt 4 none 4 := ⟨zw_461, zw_462, zw_63, zw_463, by decide +kernel⟩
theorem zX_gX5_18_1 : zx_fl zX_sd RX5 18 1 2 (fun ad _ => .ref (ad 4)) := ⟨by decide, 4, _, _, _, _, rfl, by decide, zu_X5, zw_101, Or.inl rfl, fun _ _ _ => ⟨_, rfl, rfl⟩⟩
theorem zX_gX5_21_1 : zx_fl zX_sd RX5 21 1 3 (fun ad _ => .ref (ad 5)) := ⟨by decide, 4, _, _, _, _, rfl, by decide, zu_X5, zw_104, Or.inl rfl, fun _ _ _ => ⟨_, rfl, rfl⟩⟩
theorem zX_gX5_24_1 : zx_fl zX_sd RX5 24 1 4 (fun ad _ => .ref (ad 6)) := ⟨by decide, 4, _, _, _, _, rfl, by decide, zu_X5, zw_108, Or.inl rfl, fun _ _ _ => ⟨_, rfl, rfl⟩⟩
theorem zX_vX10_79 : zx_vw zX_sd RX10 79 yX5_has cX5_has 2 (some .boolean) 1 := ⟨zw_442, zw_443, zw_444, zw_63, zw_445, by decide +kernel⟩
theorem zX_vX10_83 : zx_vw zX_sd RX10 83 yX5_instructions cX5_instructions 1 (some .int) 0 := ⟨zw_446, zw_447, zw_448, zw_63, zw_449, by decide +kernel⟩
theorem zX_sX10_87 : zx_sw zX_sd RX10 87 yX5_fits cX5_fits 4 (some .boolean) 4 := ⟨zw_450, zw_451, zw_63, zw_452, by decide +kernel⟩
theorem zX_vX10_91 : zx_vw zX_sd RX10 91 yX5_insert cX5_insert 9 none 5 := ⟨zw_456, zw_457, zw_458, zw_63, zw_459, by decide +kernel⟩
theorem zX_sX5_43 : zx_sw zX_sd RX5 43 yX5_isBlockNumber cX5_isBlockNumber 1 (some .boolean) 1 := ⟨zw_474, zw_475, zw_63, zw_476, by decide +kernel⟩
theorem zX_a9 : zx_ai zX_sd 9 16 := ⟨by decide, fun _ _ _ => rfl⟩
theorem zX_gX5_36_1 : zx_fl zX_sd RX5 36 1 8 (fun ad _ => .ref (ad 10)) := ⟨by decide, 4, _, _, _, _, rfl, by decide, zu_X5, zw_114, Or.inl rfl, fun _ _ _ => ⟨_, rfl, rfl⟩⟩
theorem zX_gX5_33_1 : zx_fl zX_sd RX5 33 1 7 (fun ad _ => .ref (ad 9)) := ⟨by decide, 4, _, _, _, _, rfl, by decide, zu_X5, zw_113, Or.inl rfl, fun _ _ _ => ⟨_, rfl, rfl⟩⟩
theorem zX_a10 : zx_ai zX_sd 10 16 := ⟨by decide, fun _ _ _ => rfl⟩
theorem zX_a8 : zx_ai zX_sd 8 16 := ⟨by decide, fun _ _ _ => rfl⟩
theorem zX_gX5_27_1 : zx_fl zX_sd RX5 27 1 5 (fun ad _ => .ref (ad 7)) := ⟨by decide, 4, _, _, _, _, rfl, by decide, zu_X5, zw_111, Or.inl rfl, fun _ _ _ => ⟨_, rfl, rfl⟩⟩
theorem zX_a7 : zx_ai zX_sd 7 16 := ⟨by decide, fun _ _ _ => rfl⟩
theorem zX_gX5_30_1 : zx_fl zX_sd RX5 30 1 6 (fun ad _ => .ref (ad 8)) := ⟨by decide, 4, _, _, _, _, rfl, by decide, zu_X5, zw_112, Or.inl rfl, fun _ _ _ => ⟨_, rfl, rfl⟩⟩
theorem zX_sX10_95 : zx_sw zX_sd RX10 95 yX5_endFits cX5_endFits 4 (some .boolean) 4 := ⟨zw_471, zw_472, zw_63, zw_473, by decide +kernel⟩
theorem zX_vX10_98 : zx_vw zX_sd RX10 98 yX5_setEnd cX5_setEnd 6 none 5 := ⟨zw_477, zw_478, zw_479, zw_63, zw_480, by decide +kernel⟩
theorem zX_pX5_46_1 : zx_fp zX_sd RX5 46 1 9 .int := ⟨by decide, 4, _, _, _, tyX5, rfl, by decide, zu_X5, tyX5_ok, nmX5, zw_116, rfl, by decide +kernel, fun _ _ _ => ⟨_, rfl, Nat.le_of_ble_eq_true rfl, fun _ => rfl⟩⟩
theorem zX_sX5_64 : zx_sw zX_sd RX5 64 yJ7_fill_53178 cJ7_fill_53178 4 none 2 := ⟨zw_489, zw_490, zw_75, zw_491, by decide +kernel⟩
theorem zX_vX10_101 : zx_vw zX_sd RX10 101 yX5_forget cX5_forget 1 none 0 := ⟨zw_485, zw_486, zw_487, zw_63, zw_488, by decide +kernel⟩
theorem zX_vX5_70 : zx_vw zX_sd RX5 70 yX5_has cX5_has 2 (some .boolean) 1 := ⟨zw_517, zw_443, zw_444, zw_63, zw_445, by decide +kernel⟩
theorem zX_vX5_73 : zx_vw zX_sd RX5 73 yX5_endCounts cX5_endCounts 2 (some .boolean) 1 := ⟨zw_513, zw_515, zw_1, zw_63, zw_516, by decide +kernel⟩
theorem zX_vX5_76 : zx_vw zX_sd RX5 76 yX5_howCounts cX5_howCounts 2 (some .int) 1 := ⟨zw_509, zw_510, zw_511, zw_63, zw_512, by decide +kernel⟩
theorem zX_a12 : zx_ai zX_sd 12 16 := ⟨by decide, fun _ _ _ => rfl⟩
theorem zX_sX2_30 : zx_sw zX_sd RX2 30 yX2_isIn cX2_isIn 2 (some .boolean) 2 := ⟨zw_524, zw_525, zw_64, zw_526, by decide +kernel⟩
theorem zX_a13 : zx_ai zX_sd 13 16 := ⟨by decide, fun _ _ _ => rfl⟩
theorem zX_sX2_40 : zx_sw zX_sd RX2 40 yX2_union cX2_union 4 (some .int) 2 := ⟨zw_521, zw_522, zw_64, zw_523, by decide +kernel⟩
theorem zX_a14 : zx_ai zX_sd 14 16 := ⟨by decide, fun _ _ _ => rfl⟩
theorem zX_a15 : zx_ai zX_sd 15 16 := ⟨by decide, fun _ _ _ => rfl⟩
theorem zX_gX2_21_11 : zx_fl zX_sd RX2 21 11 3 (fun ad _ => .ref (ad 15)) := ⟨by decide, 1, _, _, _, _, rfl, by decide, zu_X2, zw_154, Or.inl rfl, fun _ _ _ => ⟨_, rfl, rfl⟩⟩
theorem zX_gX2_18_11 : zx_fl zX_sd RX2 18 11 2 (fun ad _ => .ref (ad 14)) := ⟨by decide, 1, _, _, _, _, rfl, by decide, zu_X2, zw_151, Or.inl rfl, fun _ _ _ => ⟨_, rfl, rfl⟩⟩
theorem zX_gX2_15_11 : zx_fl zX_sd RX2 15 11 1 (fun ad _ => .ref (ad 13)) := ⟨by decide, 1, _, _, _, _, rfl, by decide, zu_X2, zw_146, Or.inl rfl, fun _ _ _ => ⟨_, rfl, rfl⟩⟩
theorem zX_gX2_9_11 : zx_fl zX_sd RX2 9 11 0 (fun ad _ => .ref (ad 12)) := ⟨by decide, 1, _, _, _, _, rfl, by decide, zu_X2, zw_145, Or.inl rfl, fun _ _ _ => ⟨_, rfl, rfl⟩⟩
theorem zX_vX2_48 : zx_vw zX_sd RX2 48 yX5_has cX5_has 2 (some .boolean) 1 := ⟨zw_504, zw_443, zw_444, zw_63, zw_445, by decide +kernel⟩
theorem zX_vX2_54 : zx_vw zX_sd RX2 54 yX5_toldBlocks cX5_toldBlocks 2 (some .int) 1 := ⟨zw_505, zw_506, zw_507, zw_63, zw_508, by decide +kernel⟩
theorem zX_gX2_44_11 : zx_fl zX_sd RX2 44 11 6 (fun _ f => .int (f 6)) := ⟨by decide, 1, _, _, _, _, rfl, by decide, zu_X2, zw_163, Or.inl rfl, fun _ _ _ => ⟨_, rfl, rfl⟩⟩
theorem zX_sX2_57 : zx_sw zX_sd RX2 57 yX2_closure cX2_closure 6 (some .int) 3 := ⟨zw_518, zw_519, zw_64, zw_520, by decide +kernel⟩
theorem zX_gX2_24_11 : zx_fl zX_sd RX2 24 11 4 (fun ad _ => .ref (ad 16)) := ⟨by decide, 1, _, _, _, _, rfl, by decide, zu_X2, zw_156, Or.inl rfl, fun _ _ _ => ⟨_, rfl, rfl⟩⟩
theorem zX_vX2_65 : zx_vw zX_sd RX2 65 yX2_parentOf cX2_parentOf 4 (some .int) 1 := ⟨zw_530, zw_532, zw_2, zw_64, zw_533, by decide +kernel⟩
theorem zX_o11 : zx_oc zX_sd 11 RX2 := ⟨by decide, 1, _, _, rfl, fun _ _ _ => ⟨_, rfl⟩⟩
theorem zX_a16 : zx_ai zX_sd 16 16 := ⟨by decide, fun _ _ _ => rfl⟩
theorem zX_gX2_27_11 : zx_fl zX_sd RX2 27 11 5 (fun ad _ => .ref (ad 17)) := ⟨by decide, 1, _, _, _, _, rfl, by decide, zu_X2, zw_159, Or.inl rfl, fun _ _ _ => ⟨_, rfl, rfl⟩⟩
theorem zX_vX2_68 : zx_vw zX_sd RX2 68 yX2_frontierOf cX2_frontierOf 5 (some .int) 1 := ⟨zw_534, zw_536, zw_3, zw_64, zw_537, by decide +kernel⟩
theorem zX_a17 : zx_ai zX_sd 17 16 := ⟨by decide, fun _ _ _ => rfl⟩
theorem zX_pX2_44_11 : zx_fp zX_sd RX2 44 11 6 .int := ⟨by decide, 1, _, _, _, tyX2, rfl, by decide, zu_X2, tyX2_ok, nmX2, zw_163, rfl, by decide +kernel, fun _ _ _ => ⟨_, rfl, Nat.le_of_ble_eq_true rfl, fun _ => rfl⟩⟩
theorem zX_sX2_61 : zx_sw zX_sd RX2 61 yX2_turnAround cX2_turnAround 4 none 2 := ⟨zw_527, zw_528, zw_64, zw_529, by decide +kernel⟩
theorem zX_gX9_111_1 : zx_fl zX_sd RX9 111 1 0 (fun ad _ => .ref (ad 2)) := ⟨by decide, 4, _, _, _, _, rfl, by decide, zu_X5, zw_95, Or.inl rfl, fun _ _ _ => ⟨_, rfl, rfl⟩⟩
theorem zX_gX9_116_1 : zx_fl zX_sd RX9 116 1 2 (fun ad _ => .ref (ad 4)) := ⟨by decide, 4, _, _, _, _, rfl, by decide, zu_X5, zw_103, Or.inl rfl, fun _ _ _ => ⟨_, rfl, rfl⟩⟩
theorem zX_sX9_93 : zx_sw zX_sd RX9 93 yX9_givingBlocks cX9_givingBlocks 5 (some .int) 2 := ⟨zw_546, zw_547, zw_65, zw_548, by decide +kernel⟩
theorem zX_gX9_97_11 : zx_fl zX_sd RX9 97 11 6 (fun _ f => .int (f 6)) := ⟨by decide, 1, _, _, _, _, rfl, by decide, zu_X2, zw_162, Or.inl rfl, fun _ _ _ => ⟨_, rfl, rfl⟩⟩
theorem zX_gX9_100_11 : zx_fl zX_sd RX9 100 11 5 (fun ad _ => .ref (ad 17)) := ⟨by decide, 1, _, _, _, _, rfl, by decide, zu_X2, zw_160, Or.inl rfl, fun _ _ _ => ⟨_, rfl, rfl⟩⟩
theorem zX_sX9_103 : zx_sw zX_sd RX9 103 yX2_closure cX2_closure 6 (some .int) 3 := ⟨zw_549, zw_519, zw_64, zw_520, by decide +kernel⟩
theorem zX_gX9_43_18 : zx_fl zX_sd RX9 43 18 9 (fun ad _ => .ref (ad 31)) := ⟨by decide, 8, _, _, _, _, rfl, by decide, zu_X9, zw_245, Or.inl rfl, fun _ _ _ => ⟨_, rfl, rfl⟩⟩
theorem zX_sX9_107 : zx_sw zX_sd RX9 107 yX2_union cX2_union 4 (some .int) 2 := ⟨zw_550, zw_522, zw_64, zw_523, by decide +kernel⟩
theorem zX_a31 : zx_ai zX_sd 31 10 := ⟨by decide, fun _ _ _ => rfl⟩
theorem zX_a30 : zx_ai zX_sd 30 16 := ⟨by decide, fun _ _ _ => rfl⟩
theorem zX_a28 : zx_ai zX_sd 28 100 := ⟨by decide, fun _ _ _ => rfl⟩
theorem zX_a23 : zx_ai zX_sd 23 262 := ⟨by decide, fun _ _ _ => rfl⟩
theorem zX_gX9_49_18 : zx_fl zX_sd RX9 49 18 11 (fun _ f => .int (f 11)) := ⟨by decide, 8, _, _, _, _, rfl, by decide, zu_X9, zw_248, Or.inl rfl, fun _ _ _ => ⟨_, rfl, rfl⟩⟩
theorem zX_pX9_49_18 : zx_fp zX_sd RX9 49 18 11 .int := ⟨by decide, 8, _, _, _, tyX9, rfl, by decide, zu_X9, tyX9_ok, nmX9, zw_248, rfl, by decide +kernel, fun _ _ _ => ⟨_, rfl, Nat.le_of_ble_eq_true rfl, fun _ => rfl⟩⟩
theorem zX_gX9_9_18 : zx_fl zX_sd RX9 9 18 0 (fun ad _ => .ref (ad 19)) := ⟨by decide, 8, _, _, _, _, rfl, by decide, zu_X9, zw_215, Or.inl rfl, fun _ _ _ => ⟨_, rfl, rfl⟩⟩
theorem zX_a19 : zx_ai zX_sd 19 261 := ⟨by decide, fun _ _ _ => rfl⟩
theorem zX_gX9_15_18 : zx_fl zX_sd RX9 15 18 1 (fun ad _ => .ref (ad 20)) := ⟨by decide, 8, _, _, _, _, rfl, by decide, zu_X9, zw_219, Or.inl rfl, fun _ _ _ => ⟨_, rfl, rfl⟩⟩
theorem zX_a20 : zx_ai zX_sd 20 261 := ⟨by decide, fun _ _ _ => rfl⟩
theorem zX_gX9_18_18 : zx_fl zX_sd RX9 18 18 2 (fun ad _ => .ref (ad 21)) := ⟨by decide, 8, _, _, _, _, rfl, by decide, zu_X9, zw_223, Or.inl rfl, fun _ _ _ => ⟨_, rfl, rfl⟩⟩
theorem zX_a21 : zx_ai zX_sd 21 261 := ⟨by decide, fun _ _ _ => rfl⟩
theorem zX_gX9_21_18 : zx_fl zX_sd RX9 21 18 3 (fun ad _ => .ref (ad 22)) := ⟨by decide, 8, _, _, _, _, rfl, by decide, zu_X9, zw_225, Or.inl rfl, fun _ _ _ => ⟨_, rfl, rfl⟩⟩
theorem zX_a22 : zx_ai zX_sd 22 261 := ⟨by decide, fun _ _ _ => rfl⟩
theorem zX_gX9_24_18 : zx_fl zX_sd RX9 24 18 4 (fun ad _ => .ref (ad 23)) := ⟨by decide, 8, _, _, _, _, rfl, by decide, zu_X9, zw_228, Or.inl rfl, fun _ _ _ => ⟨_, rfl, rfl⟩⟩
theorem zX_sX9_138 : zx_sw zX_sd RX9 138 yX2_isIn cX2_isIn 2 (some .boolean) 2 := ⟨zw_574, zw_525, zw_64, zw_526, by decide +kernel⟩
theorem zX_vX9_125 : zx_vw zX_sd RX9 125 yX9_add cX9_add 6 none 5 := ⟨zw_560, zw_562, zw_6, zw_65, zw_563, by decide +kernel⟩
theorem zX_o18 : zx_oc zX_sd 18 RX9 := ⟨by decide, 8, _, _, rfl, fun _ _ _ => ⟨_, rfl⟩⟩
theorem zX_gX9_40_18 : zx_fl zX_sd RX9 40 18 8 (fun ad _ => .ref (ad 30)) := ⟨by decide, 8, _, _, _, _, rfl, by decide, zu_X9, zw_242, Or.inl rfl, fun _ _ _ => ⟨_, rfl, rfl⟩⟩
theorem zX_gX9_37_18 : zx_fl zX_sd RX9 37 18 7 (fun ad _ => .ref (ad 29)) := ⟨by decide, 8, _, _, _, _, rfl, by decide, zu_X9, zw_240, Or.inl rfl, fun _ _ _ => ⟨_, rfl, rfl⟩⟩
theorem zX_a29 : zx_ai zX_sd 29 16 := ⟨by decide, fun _ _ _ => rfl⟩
theorem zX_gX9_135_11 : zx_fl zX_sd RX9 135 11 1 (fun ad _ => .ref (ad 13)) := ⟨by decide, 1, _, _, _, _, rfl, by decide, zu_X2, zw_150, Or.inl rfl, fun _ _ _ => ⟨_, rfl, rfl⟩⟩
theorem zX_sX9_76 : zx_sw zX_sd RX9 76 yJ6_bitCount_0f7a4 cJ6_bitCount_0f7a4 1 (some .int) 1 := ⟨zw_568, zw_569, zw_76, zw_570, by decide +kernel⟩
theorem zX_gX9_142_1 : zx_fl zX_sd RX9 142 1 1 (fun ad _ => .ref (ad 3)) := ⟨by decide, 4, _, _, _, _, rfl, by decide, zu_X5, zw_100, Or.inl rfl, fun _ _ _ => ⟨_, rfl, rfl⟩⟩
theorem zX_gX9_34_18 : zx_fl zX_sd RX9 34 18 6 (fun ad _ => .ref (ad 28)) := ⟨by decide, 8, _, _, _, _, rfl, by decide, zu_X9, zw_238, Or.inl rfl, fun _ _ _ => ⟨_, rfl, rfl⟩⟩
theorem zX_gX9_143_1 : zx_fl zX_sd RX9 143 1 3 (fun ad _ => .ref (ad 5)) := ⟨by decide, 4, _, _, _, _, rfl, by decide, zu_X5, zw_107, Or.inl rfl, fun _ _ _ => ⟨_, rfl, rfl⟩⟩
theorem zX_vX9_68 : zx_vw zX_sd RX9 68 yX2_reaches cX2_reaches 2 (some .boolean) 1 := ⟨zw_556, zw_557, zw_558, zw_64, zw_559, by decide +kernel⟩
theorem zX_vX9_129 : zx_vw zX_sd RX9 129 yX9_numberChoices cX9_numberChoices 5 none 2 := ⟨zw_564, zw_566, zw_7, zw_65, zw_567, by decide +kernel⟩
theorem zX_vX9_132 : zx_vw zX_sd RX9 132 yX9_numberInstructions cX9_numberInstructions 5 none 2 := ⟨zw_575, zw_577, zw_8, zw_65, zw_578, by decide +kernel⟩
theorem zX_sX9_119 : zx_sw zX_sd RX9 119 yJ7_fill_53178 cJ7_fill_53178 4 none 2 := ⟨zw_555, zw_490, zw_75, zw_491, by decide +kernel⟩
theorem zX_gX9_46_18 : zx_fl zX_sd RX9 46 18 10 (fun ad _ => .ref (ad 32)) := ⟨by decide, 8, _, _, _, _, rfl, by decide, zu_X9, zw_246, Or.inl rfl, fun _ _ _ => ⟨_, rfl, rfl⟩⟩
theorem zX_a32 : zx_ai zX_sd 32 160 := ⟨by decide, fun _ _ _ => rfl⟩
theorem zX_gX9_146_11 : zx_fl zX_sd RX9 146 11 4 (fun ad _ => .ref (ad 16)) := ⟨by decide, 1, _, _, _, _, rfl, by decide, zu_X2, zw_158, Or.inl rfl, fun _ _ _ => ⟨_, rfl, rfl⟩⟩
theorem zX_gX9_30_18 : zx_fl zX_sd RX9 30 18 5 (fun ad _ => .ref (ad 24)) := ⟨by decide, 8, _, _, _, _, rfl, by decide, zu_X9, zw_234, Or.inl rfl, fun _ _ _ => ⟨_, rfl, rfl⟩⟩
theorem zX_gX9_152_24 : zx_fl zX_sd RX9 152 24 0 (fun ad _ => .ref (ad 25)) := ⟨by decide, 5, _, _, _, _, rfl, by decide, zu_X6, zw_197, Or.inl rfl, fun _ _ _ => ⟨_, rfl, rfl⟩⟩
theorem zX_a25 : zx_ai zX_sd 25 530 := ⟨by decide, fun _ _ _ => rfl⟩
theorem zX_gX9_155_1 : zx_fl zX_sd RX9 155 1 4 (fun ad _ => .ref (ad 6)) := ⟨by decide, 4, _, _, _, _, rfl, by decide, zu_X5, zw_110, Or.inl rfl, fun _ _ _ => ⟨_, rfl, rfl⟩⟩
theorem zX_gX9_149_24 : zx_fl zX_sd RX9 149 24 1 (fun ad _ => .ref (ad 26)) := ⟨by decide, 5, _, _, _, _, rfl, by decide, zu_X6, zw_201, Or.inl rfl, fun _ _ _ => ⟨_, rfl, rfl⟩⟩
theorem zX_a26 : zx_ai zX_sd 26 100 := ⟨by decide, fun _ _ _ => rfl⟩
theorem zX_gX9_161_24 : zx_fl zX_sd RX9 161 24 2 (fun ad _ => .ref (ad 27)) := ⟨by decide, 5, _, _, _, _, rfl, by decide, zu_X6, zw_206, Or.inl rfl, fun _ _ _ => ⟨_, rfl, rfl⟩⟩
theorem zX_vX9_164 : zx_vw zX_sd RX9 164 yX5_endVariable cX5_endVariable 2 (some .int) 1 := ⟨zw_588, zw_589, zw_590, zw_63, zw_591, by decide +kernel⟩
theorem zX_a27 : zx_ai zX_sd 27 16 := ⟨by decide, fun _ _ _ => rfl⟩
theorem zX_vX9_158 : zx_vw zX_sd RX9 158 yX5_howCounts cX5_howCounts 2 (some .int) 1 := ⟨zw_587, zw_510, zw_511, zw_63, zw_512, by decide +kernel⟩
theorem zX_vX9_167 : zx_vw zX_sd RX9 167 yX9_fillChoice cX9_fillChoice 5 none 2 := ⟨zw_596, zw_598, zw_12, zw_65, zw_599, by decide +kernel⟩
theorem zX_gX9_73_11 : zx_fl zX_sd RX9 73 11 3 (fun ad _ => .ref (ad 15)) := ⟨by decide, 1, _, _, _, _, rfl, by decide, zu_X2, zw_155, Or.inl rfl, fun _ _ _ => ⟨_, rfl, rfl⟩⟩
theorem zX_vX9_81 : zx_vw zX_sd RX9 81 yX9_beginBlock cX9_beginBlock 6 none 2 := ⟨zw_579, zw_581, zw_9, zw_65, zw_582, by decide +kernel⟩
theorem zX_vX9_85 : zx_vw zX_sd RX9 85 yX9_followBlock cX9_followBlock 7 none 2 := ⟨zw_583, zw_585, zw_10, zw_65, zw_586, by decide +kernel⟩
theorem zX_vX9_61 : zx_vw zX_sd RX9 61 yX9_placeChoices cX9_placeChoices 6 none 2 := ⟨zw_542, zw_544, zw_4, zw_65, zw_545, by decide +kernel⟩
theorem zX_vX9_65 : zx_vw zX_sd RX9 65 yX9_numberAll cX9_numberAll 4 none 2 := ⟨zw_551, zw_553, zw_5, zw_65, zw_554, by decide +kernel⟩
theorem zX_vX9_89 : zx_vw zX_sd RX9 89 yX9_fillChoices cX9_fillChoices 4 none 1 := ⟨zw_592, zw_594, zw_11, zw_65, zw_595, by decide +kernel⟩
theorem zX_gX0_37_18 : zx_fl zX_sd RX0 37 18 0 (fun ad _ => .ref (ad 19)) := ⟨by decide, 8, _, _, _, _, rfl, by decide, zu_X9, zw_216, Or.inl rfl, fun _ _ _ => ⟨_, rfl, rfl⟩⟩
theorem zX_gX0_40_18 : zx_fl zX_sd RX0 40 18 3 (fun ad _ => .ref (ad 22)) := ⟨by decide, 8, _, _, _, _, rfl, by decide, zu_X9, zw_226, Or.inl rfl, fun _ _ _ => ⟨_, rfl, rfl⟩⟩
theorem zX_gX0_43_18 : zx_fl zX_sd RX0 43 18 1 (fun ad _ => .ref (ad 20)) := ⟨by decide, 8, _, _, _, _, rfl, by decide, zu_X9, zw_221, Or.inl rfl, fun _ _ _ => ⟨_, rfl, rfl⟩⟩
theorem zX_gX0_9_33 : zx_fl zX_sd RX0 9 33 0 (fun ad _ => .ref (ad 34)) := ⟨by decide, 0, _, _, _, _, rfl, by decide, zu_X0, zw_282, Or.inl rfl, fun _ _ _ => ⟨_, rfl, rfl⟩⟩
theorem zX_a34 : zx_ai zX_sd 34 261 := ⟨by decide, fun _ _ _ => rfl⟩
theorem zX_sX0_33 : zx_sw zX_sd RX0 33 yX0_alike cX0_alike 3 (some .boolean) 3 := ⟨zw_608, zw_609, zw_67, zw_610, by decide +kernel⟩
theorem zX_gX0_72_18 : zx_fl zX_sd RX0 72 18 5 (fun ad _ => .ref (ad 24)) := ⟨by decide, 8, _, _, _, _, rfl, by decide, zu_X9, zw_236, Or.inl rfl, fun _ _ _ => ⟨_, rfl, rfl⟩⟩
theorem zX_gX0_76_24 : zx_fl zX_sd RX0 76 24 0 (fun ad _ => .ref (ad 25)) := ⟨by decide, 5, _, _, _, _, rfl, by decide, zu_X6, zw_195, Or.inl rfl, fun _ _ _ => ⟨_, rfl, rfl⟩⟩
theorem zX_vX0_65 : zx_vw zX_sd RX0 65 yX0_together cX0_together 4 (some .boolean) 3 := ⟨zw_627, zw_629, zw_17, zw_67, zw_630, by decide +kernel⟩
theorem zX_o33 : zx_oc zX_sd 33 RX0 := ⟨by decide, 0, _, _, rfl, fun _ _ _ => ⟨_, rfl⟩⟩
theorem zX_gX0_58_18 : zx_fl zX_sd RX0 58 18 4 (fun ad _ => .ref (ad 23)) := ⟨by decide, 8, _, _, _, _, rfl, by decide, zu_X9, zw_231, Or.inl rfl, fun _ _ _ => ⟨_, rfl, rfl⟩⟩
theorem zX_vX0_61 : zx_vw zX_sd RX0 61 yX9_operandsOf cX9_operandsOf 2 (some .int) 1 := ⟨zw_623, zw_624, zw_625, zw_65, zw_626, by decide +kernel⟩
theorem zX_sX0_68 : zx_sw zX_sd RX0 68 yX0_isEven cX0_isEven 1 (some .boolean) 1 := ⟨zw_631, zw_632, zw_67, zw_633, by decide +kernel⟩
theorem zX_gX0_15_33 : zx_fl zX_sd RX0 15 33 1 (fun ad _ => .ref (ad 35)) := ⟨by decide, 0, _, _, _, _, rfl, by decide, zu_X0, zw_285, Or.inl rfl, fun _ _ _ => ⟨_, rfl, rfl⟩⟩
theorem zX_a35 : zx_ai zX_sd 35 261 := ⟨by decide, fun _ _ _ => rfl⟩
theorem zX_vX0_55 : zx_vw zX_sd RX0 55 yX0_operandsAgree cX0_operandsAgree 9 (some .boolean) 3 := ⟨zw_619, zw_621, zw_16, zw_67, zw_622, by decide +kernel⟩
theorem zX_gX0_18_18 : zx_fl zX_sd RX0 18 18 11 (fun _ f => .int (f 11)) := ⟨by decide, 8, _, _, _, _, rfl, by decide, zu_X9, zw_247, Or.inl rfl, fun _ _ _ => ⟨_, rfl, rfl⟩⟩
theorem zX_vX0_46 : zx_vw zX_sd RX0 46 yX0_leastTogether cX0_leastTogether 4 (some .int) 2 := ⟨zw_615, zw_617, zw_15, zw_67, zw_618, by decide +kernel⟩
theorem zX_vX0_24 : zx_vw zX_sd RX0 24 yX0_leastAlike cX0_leastAlike 4 (some .int) 2 := ⟨zw_604, zw_606, zw_13, zw_67, zw_607, by decide +kernel⟩
theorem zX_vX0_28 : zx_vw zX_sd RX0 28 yX0_partFiner cX0_partFiner 4 (some .boolean) 1 := ⟨zw_611, zw_613, zw_14, zw_67, zw_614, by decide +kernel⟩
theorem zX_gX0_32_33 : zx_fl zX_sd RX0 32 33 2 (fun _ f => .int (f 2)) := ⟨by decide, 0, _, _, _, _, rfl, by decide, zu_X0, zw_286, Or.inl rfl, fun _ _ _ => ⟨_, rfl, rfl⟩⟩
theorem zX_pX0_32_33 : zx_fp zX_sd RX0 32 33 2 .int := ⟨by decide, 0, _, _, _, tyX0, rfl, by decide, zu_X0, tyX0_ok, nmX0, zw_286, rfl, by decide +kernel, fun _ _ _ => ⟨_, rfl, Nat.le_of_ble_eq_true rfl, fun _ => rfl⟩⟩
theorem zX_gX3_26_18 : zx_fl zX_sd RX3 26 18 11 (fun _ f => .int (f 11)) := ⟨by decide, 8, _, _, _, _, rfl, by decide, zu_X9, zw_249, Or.inl rfl, fun _ _ _ => ⟨_, rfl, rfl⟩⟩
theorem zX_gX3_58_33 : zx_fl zX_sd RX3 58 33 0 (fun ad _ => .ref (ad 34)) := ⟨by decide, 0, _, _, _, _, rfl, by decide, zu_X0, zw_283, Or.inl rfl, fun _ _ _ => ⟨_, rfl, rfl⟩⟩
theorem zX_gX3_63_18 : zx_fl zX_sd RX3 63 18 1 (fun ad _ => .ref (ad 20)) := ⟨by decide, 8, _, _, _, _, rfl, by decide, zu_X9, zw_220, Or.inl rfl, fun _ _ _ => ⟨_, rfl, rfl⟩⟩
theorem zX_gX3_66_11 : zx_fl zX_sd RX3 66 11 2 (fun ad _ => .ref (ad 14)) := ⟨by decide, 1, _, _, _, _, rfl, by decide, zu_X2, zw_152, Or.inl rfl, fun _ _ _ => ⟨_, rfl, rfl⟩⟩
theorem zX_sX3_69 : zx_sw zX_sd RX3 69 yX2_isIn cX2_isIn 2 (some .boolean) 2 := ⟨zw_642, zw_525, zw_64, zw_526, by decide +kernel⟩
theorem zX_gX3_9_36 : zx_fl zX_sd RX3 9 36 0 (fun ad _ => .ref (ad 37)) := ⟨by decide, 2, _, _, _, _, rfl, by decide, zu_X3, zw_303, Or.inl rfl, fun _ _ _ => ⟨_, rfl, rfl⟩⟩
theorem zX_a37 : zx_az zX_sd 37 261 := ⟨by decide, fun _ _ _ => rfl⟩
theorem zX_gX3_49_18 : zx_fl zX_sd RX3 49 18 5 (fun ad _ => .ref (ad 24)) := ⟨by decide, 8, _, _, _, _, rfl, by decide, zu_X9, zw_235, Or.inl rfl, fun _ _ _ => ⟨_, rfl, rfl⟩⟩
theorem zX_gX3_90_24 : zx_fl zX_sd RX3 90 24 0 (fun ad _ => .ref (ad 25)) := ⟨by decide, 5, _, _, _, _, rfl, by decide, zu_X6, zw_194, Or.inl rfl, fun _ _ _ => ⟨_, rfl, rfl⟩⟩
theorem zX_gX3_18_36 : zx_fl zX_sd RX3 18 36 1 (fun ad _ => .ref (ad 38)) := ⟨by decide, 2, _, _, _, _, rfl, by decide, zu_X3, zw_306, Or.inl rfl, fun _ _ _ => ⟨_, rfl, rfl⟩⟩
theorem zX_gX3_90_38 : zx_fl zX_sd RX3 90 38 0 (fun ad _ => .ref (ad 39)) := ⟨by decide, 5, _, _, _, _, rfl, by decide, zu_X6, zw_194, Or.inl rfl, fun _ _ _ => ⟨_, rfl, rfl⟩⟩
theorem zX_vX3_54 : zx_vw zX_sd RX3 54 yX3_leader cX3_leader 8 (some .int) 5 := ⟨zw_651, zw_653, zw_19, zw_68, zw_654, by decide +kernel⟩
theorem zX_o36 : zx_oc zX_sd 36 RX3 := ⟨by decide, 2, _, _, rfl, fun _ _ _ => ⟨_, rfl⟩⟩
theorem zX_a39 : zx_ai zX_sd 39 530 := ⟨by decide, fun _ _ _ => rfl⟩
theorem zX_vX3_76 : zx_vw zX_sd RX3 76 yX9_operandsOf cX9_operandsOf 2 (some .int) 1 := ⟨zw_647, zw_624, zw_625, zw_65, zw_626, by decide +kernel⟩
theorem zX_gX3_80_18 : zx_fl zX_sd RX3 80 18 0 (fun ad _ => .ref (ad 19)) := ⟨by decide, 8, _, _, _, _, rfl, by decide, zu_X9, zw_217, Or.inl rfl, fun _ _ _ => ⟨_, rfl, rfl⟩⟩
theorem zX_gX3_83_11 : zx_fl zX_sd RX3 83 11 1 (fun ad _ => .ref (ad 13)) := ⟨by decide, 1, _, _, _, _, rfl, by decide, zu_X2, zw_148, Or.inl rfl, fun _ _ _ => ⟨_, rfl, rfl⟩⟩
theorem zX_sX3_86 : zx_sw zX_sd RX3 86 yX2_nthOf cX2_nthOf 4 (some .int) 2 := ⟨zw_648, zw_649, zw_64, zw_650, by decide +kernel⟩
theorem zX_gX3_73_18 : zx_fl zX_sd RX3 73 18 4 (fun ad _ => .ref (ad 23)) := ⟨by decide, 8, _, _, _, _, rfl, by decide, zu_X9, zw_230, Or.inl rfl, fun _ _ _ => ⟨_, rfl, rfl⟩⟩
theorem zX_gX3_93_1 : zx_fl zX_sd RX3 93 1 0 (fun ad _ => .ref (ad 2)) := ⟨by decide, 4, _, _, _, _, rfl, by decide, zu_X5, zw_93, Or.inl rfl, fun _ _ _ => ⟨_, rfl, rfl⟩⟩
theorem zX_gX3_98_1 : zx_fl zX_sd RX3 98 1 1 (fun ad _ => .ref (ad 3)) := ⟨by decide, 4, _, _, _, _, rfl, by decide, zu_X5, zw_99, Or.inl rfl, fun _ _ _ => ⟨_, rfl, rfl⟩⟩
theorem zX_gX3_99_38 : zx_fl zX_sd RX3 99 38 1 (fun ad _ => .ref (ad 40)) := ⟨by decide, 5, _, _, _, _, rfl, by decide, zu_X6, zw_200, Or.inl rfl, fun _ _ _ => ⟨_, rfl, rfl⟩⟩
theorem zX_gX3_99_24 : zx_fl zX_sd RX3 99 24 1 (fun ad _ => .ref (ad 26)) := ⟨by decide, 5, _, _, _, _, rfl, by decide, zu_X6, zw_200, Or.inl rfl, fun _ _ _ => ⟨_, rfl, rfl⟩⟩
theorem zX_a40 : zx_ai zX_sd 40 100 := ⟨by decide, fun _ _ _ => rfl⟩
theorem zX_sX3_31 : zx_sw zX_sd RX3 31 yX3_isLed cX3_isLed 7 (some .boolean) 4 := ⟨zw_639, zw_640, zw_68, zw_641, by decide +kernel⟩
theorem zX_gX3_22_36 : zx_fl zX_sd RX3 22 36 2 (fun _ f => .int (f 2)) := ⟨by decide, 2, _, _, _, _, rfl, by decide, zu_X3, zw_309, Or.inl rfl, fun _ _ _ => ⟨_, rfl, rfl⟩⟩
theorem zX_pX3_22_36 : zx_fp zX_sd RX3 22 36 2 .int := ⟨by decide, 2, _, _, _, tyX3, rfl, by decide, zu_X3, tyX3_ok, nmX3, zw_309, rfl, by decide +kernel, fun _ _ _ => ⟨_, rfl, Nat.le_of_ble_eq_true rfl, fun _ => rfl⟩⟩
theorem zX_vX3_35 : zx_vw zX_sd RX3 35 yX3_leadOperands cX3_leadOperands 10 none 4 := ⟨zw_643, zw_645, zw_18, zw_68, zw_646, by decide +kernel⟩
theorem zX_vX3_39 : zx_vw zX_sd RX3 39 yX2_reaches cX2_reaches 2 (some .boolean) 1 := ⟨zw_655, zw_557, zw_558, zw_64, zw_559, by decide +kernel⟩
theorem zX_vX3_45 : zx_vw zX_sd RX3 45 yX3_leadEmits cX3_leadEmits 7 none 5 := ⟨zw_656, zw_658, zw_20, zw_68, zw_659, by decide +kernel⟩
theorem zX_gX3_50_24 : zx_fl zX_sd RX3 50 24 2 (fun ad _ => .ref (ad 27)) := ⟨by decide, 5, _, _, _, _, rfl, by decide, zu_X6, zw_204, Or.inl rfl, fun _ _ _ => ⟨_, rfl, rfl⟩⟩
theorem zX_gX3_50_38 : zx_fl zX_sd RX3 50 38 2 (fun ad _ => .ref (ad 41)) := ⟨by decide, 5, _, _, _, _, rfl, by decide, zu_X6, zw_204, Or.inl rfl, fun _ _ _ => ⟨_, rfl, rfl⟩⟩
theorem zX_a41 : zx_ai zX_sd 41 16 := ⟨by decide, fun _ _ _ => rfl⟩
theorem zX_gX10_71_0 : zx_fl zX_sd RX10 71 0 9 (fun _ f => .int (f 9)) := ⟨by decide, 9, _, _, _, _, rfl, by decide, zu_X10, zw_412, Or.inl rfl, fun _ _ _ => ⟨_, rfl, rfl⟩⟩
theorem zX_gX10_19_0 : zx_fl zX_sd RX10 19 0 1 (fun ad _ => .ref (ad 11)) := ⟨by decide, 9, _, _, _, _, rfl, by decide, zu_X10, zw_404, Or.inl rfl, fun _ _ _ => ⟨_, rfl, rfl⟩⟩
theorem zX_vX10_240 : zx_vw zX_sd RX10 240 yX2_draw cX2_draw 3 none 1 := ⟨zw_500, zw_501, zw_502, zw_64, zw_503, by decide +kernel⟩
theorem zX_gX10_26_0 : zx_fl zX_sd RX10 26 0 2 (fun ad _ => .ref (ad 18)) := ⟨by decide, 9, _, _, _, _, rfl, by decide, zu_X10, zw_405, Or.inl rfl, fun _ _ _ => ⟨_, rfl, rfl⟩⟩
theorem zX_vX10_243 : zx_vw zX_sd RX10 243 yX9_make cX9_make 5 none 2 := ⟨zw_538, zw_539, zw_540, zw_65, zw_541, by decide +kernel⟩
theorem zX_gX10_33_0 : zx_fl zX_sd RX10 33 0 3 (fun ad _ => .ref (ad 33)) := ⟨by decide, 9, _, _, _, _, rfl, by decide, zu_X10, zw_406, Or.inl rfl, fun _ _ _ => ⟨_, rfl, rfl⟩⟩
theorem zX_vX10_247 : zx_vw zX_sd RX10 247 yX0_part cX0_part 4 none 1 := ⟨zw_600, zw_601, zw_602, zw_67, zw_603, by decide +kernel⟩
theorem zX_gX10_40_0 : zx_fl zX_sd RX10 40 0 4 (fun ad _ => .ref (ad 36)) := ⟨by decide, 9, _, _, _, _, rfl, by decide, zu_X10, zw_407, Or.inl rfl, fun _ _ _ => ⟨_, rfl, rfl⟩⟩
theorem zX_vX10_251 : zx_vw zX_sd RX10 251 yX3_lead cX3_lead 7 none 4 := ⟨zw_635, zw_636, zw_637, zw_68, zw_638, by decide +kernel⟩
theorem zX_gX10_122_11 : zx_fl zX_sd RX10 122 11 4 (fun ad _ => .ref (ad 16)) := ⟨by decide, 1, _, _, _, _, rfl, by decide, zu_X2, zw_157, Or.inl rfl, fun _ _ _ => ⟨_, rfl, rfl⟩⟩
theorem zX_gX10_125_11 : zx_fl zX_sd RX10 125 11 1 (fun ad _ => .ref (ad 13)) := ⟨by decide, 1, _, _, _, _, rfl, by decide, zu_X2, zw_149, Or.inl rfl, fun _ _ _ => ⟨_, rfl, rfl⟩⟩
theorem zX_sX10_128 : zx_sw zX_sd RX10 128 yJ6_bitCount_0f7a4 cJ6_bitCount_0f7a4 1 (some .int) 1 := ⟨zw_666, zw_569, zw_76, zw_570, by decide +kernel⟩
theorem zX_gX10_133_18 : zx_fl zX_sd RX10 133 18 8 (fun ad _ => .ref (ad 30)) := ⟨by decide, 8, _, _, _, _, rfl, by decide, zu_X9, zw_244, Or.inl rfl, fun _ _ _ => ⟨_, rfl, rfl⟩⟩
theorem zX_gX10_136_11 : zx_fl zX_sd RX10 136 11 5 (fun ad _ => .ref (ad 17)) := ⟨by decide, 1, _, _, _, _, rfl, by decide, zu_X2, zw_161, Or.inl rfl, fun _ _ _ => ⟨_, rfl, rfl⟩⟩
theorem zX_vX10_104 : zx_vw zX_sd RX10 104 yX10_refresh cX10_refresh 1 none 0 := ⟨zw_496, zw_498, zw_0, zw_62, zw_499, by decide +kernel⟩
theorem zX_o0 : zx_oc zX_sd 0 RX10 := ⟨by decide, 9, _, _, rfl, fun _ _ _ => ⟨_, rfl⟩⟩
theorem zX_vX10_107 : zx_vw zX_sd RX10 107 yX2_reaches cX2_reaches 2 (some .boolean) 1 := ⟨zw_660, zw_557, zw_558, zw_64, zw_559, by decide +kernel⟩
theorem zX_gX10_110_1 : zx_fl zX_sd RX10 110 1 0 (fun ad _ => .ref (ad 2)) := ⟨by decide, 4, _, _, _, _, rfl, by decide, zu_X5, zw_94, Or.inl rfl, fun _ _ _ => ⟨_, rfl, rfl⟩⟩
theorem zX_vX10_114 : zx_vw zX_sd RX10 114 yX5_howCounts cX5_howCounts 2 (some .int) 1 := ⟨zw_661, zw_510, zw_511, zw_63, zw_512, by decide +kernel⟩
theorem zX_vX10_118 : zx_vw zX_sd RX10 118 yX10_aboutReached cX10_aboutReached 3 (some .int) 2 := ⟨zw_662, zw_664, zw_21, zw_62, zw_665, by decide +kernel⟩
theorem zX_sX10_139 : zx_sw zX_sd RX10 139 yX2_nthOf cX2_nthOf 4 (some .int) 2 := ⟨zw_671, zw_649, zw_64, zw_650, by decide +kernel⟩
theorem zX_gX10_142_11 : zx_fl zX_sd RX10 142 11 2 (fun ad _ => .ref (ad 14)) := ⟨by decide, 1, _, _, _, _, rfl, by decide, zu_X2, zw_153, Or.inl rfl, fun _ _ _ => ⟨_, rfl, rfl⟩⟩
theorem zX_sX10_145 : zx_sw zX_sd RX10 145 yX2_isIn cX2_isIn 2 (some .boolean) 2 := ⟨zw_676, zw_525, zw_64, zw_526, by decide +kernel⟩
theorem zX_vX10_149 : zx_vw zX_sd RX10 149 yX9_has cX9_has 2 (some .boolean) 1 := ⟨zw_685, zw_686, zw_687, zw_65, zw_688, by decide +kernel⟩
theorem zX_gX10_150_18 : zx_fl zX_sd RX10 150 18 0 (fun ad _ => .ref (ad 19)) := ⟨by decide, 8, _, _, _, _, rfl, by decide, zu_X9, zw_218, Or.inl rfl, fun _ _ _ => ⟨_, rfl, rfl⟩⟩
theorem zX_gX10_153_18 : zx_fl zX_sd RX10 153 18 1 (fun ad _ => .ref (ad 20)) := ⟨by decide, 8, _, _, _, _, rfl, by decide, zu_X9, zw_222, Or.inl rfl, fun _ _ _ => ⟨_, rfl, rfl⟩⟩
theorem zX_gX10_156_18 : zx_fl zX_sd RX10 156 18 2 (fun ad _ => .ref (ad 21)) := ⟨by decide, 8, _, _, _, _, rfl, by decide, zu_X9, zw_224, Or.inl rfl, fun _ _ _ => ⟨_, rfl, rfl⟩⟩
theorem zX_gX10_159_33 : zx_fl zX_sd RX10 159 33 0 (fun ad _ => .ref (ad 34)) := ⟨by decide, 0, _, _, _, _, rfl, by decide, zu_X0, zw_284, Or.inl rfl, fun _ _ _ => ⟨_, rfl, rfl⟩⟩
theorem zX_gX10_162_36 : zx_fl zX_sd RX10 162 36 0 (fun ad _ => .ref (ad 37)) := ⟨by decide, 2, _, _, _, _, rfl, by decide, zu_X3, zw_305, Or.inl rfl, fun _ _ _ => ⟨_, rfl, rfl⟩⟩
theorem zX_vX10_166 : zx_vw zX_sd RX10 166 yX9_operandsOf cX9_operandsOf 2 (some .int) 1 := ⟨zw_689, zw_624, zw_625, zw_65, zw_626, by decide +kernel⟩
theorem zX_gX10_169_18 : zx_fl zX_sd RX10 169 18 3 (fun ad _ => .ref (ad 22)) := ⟨by decide, 8, _, _, _, _, rfl, by decide, zu_X9, zw_227, Or.inl rfl, fun _ _ _ => ⟨_, rfl, rfl⟩⟩
theorem zX_vX9_53 : zx_vw zX_sd RX9 53 yX9_has cX9_has 2 (some .boolean) 1 := ⟨zw_698, zw_686, zw_687, zw_65, zw_688, by decide +kernel⟩
theorem zX_vX9_57 : zx_vw zX_sd RX9 57 yX9_operandsOf cX9_operandsOf 2 (some .int) 1 := ⟨zw_699, zw_624, zw_625, zw_65, zw_626, by decide +kernel⟩
theorem zX_vX10_172 : zx_vw zX_sd RX10 172 yX9_hasOperand cX9_hasOperand 3 (some .boolean) 2 := ⟨zw_694, zw_695, zw_696, zw_65, zw_697, by decide +kernel⟩
theorem zX_gX10_175_18 : zx_fl zX_sd RX10 175 18 5 (fun ad _ => .ref (ad 24)) := ⟨by decide, 8, _, _, _, _, rfl, by decide, zu_X9, zw_237, Or.inl rfl, fun _ _ _ => ⟨_, rfl, rfl⟩⟩
theorem zX_gX10_179_24 : zx_fl zX_sd RX10 179 24 0 (fun ad _ => .ref (ad 25)) := ⟨by decide, 5, _, _, _, _, rfl, by decide, zu_X6, zw_196, Or.inl rfl, fun _ _ _ => ⟨_, rfl, rfl⟩⟩
theorem zX_gX10_184_18 : zx_fl zX_sd RX10 184 18 4 (fun ad _ => .ref (ad 23)) := ⟨by decide, 8, _, _, _, _, rfl, by decide, zu_X9, zw_232, Or.inl rfl, fun _ _ _ => ⟨_, rfl, rfl⟩⟩
theorem zX_gX10_187_36 : zx_fl zX_sd RX10 187 36 1 (fun ad _ => .ref (ad 38)) := ⟨by decide, 2, _, _, _, _, rfl, by decide, zu_X3, zw_308, Or.inl rfl, fun _ _ _ => ⟨_, rfl, rfl⟩⟩
theorem zX_gX10_179_38 : zx_fl zX_sd RX10 179 38 0 (fun ad _ => .ref (ad 39)) := ⟨by decide, 5, _, _, _, _, rfl, by decide, zu_X6, zw_196, Or.inl rfl, fun _ _ _ => ⟨_, rfl, rfl⟩⟩
theorem zX_vX10_188 : zx_vw zX_sd RX10 188 yX10_readsOf cX10_readsOf 2 (some (.object "ValueBench$Reads")) 1 := ⟨zw_712, zw_714, zw_22, zw_62, zw_715, by decide +kernel⟩
theorem zX_gX10_192_24 : zx_fl zX_sd RX10 192 24 2 (fun ad _ => .ref (ad 27)) := ⟨by decide, 5, _, _, _, _, rfl, by decide, zu_X6, zw_207, Or.inl rfl, fun _ _ _ => ⟨_, rfl, rfl⟩⟩
theorem zX_gX10_192_38 : zx_fl zX_sd RX10 192 38 2 (fun ad _ => .ref (ad 41)) := ⟨by decide, 5, _, _, _, _, rfl, by decide, zu_X6, zw_207, Or.inl rfl, fun _ _ _ => ⟨_, rfl, rfl⟩⟩
theorem zX_vX10_195 : zx_vw zX_sd RX10 195 yX5_nthEmit cX5_nthEmit 5 (some .int) 2 := ⟨zw_720, zw_721, zw_722, zw_63, zw_723, by decide +kernel⟩
theorem zX_gX10_198_24 : zx_fl zX_sd RX10 198 24 1 (fun ad _ => .ref (ad 26)) := ⟨by decide, 5, _, _, _, _, rfl, by decide, zu_X6, zw_202, Or.inl rfl, fun _ _ _ => ⟨_, rfl, rfl⟩⟩
theorem zX_gX10_198_38 : zx_fl zX_sd RX10 198 38 1 (fun ad _ => .ref (ad 40)) := ⟨by decide, 5, _, _, _, _, rfl, by decide, zu_X6, zw_202, Or.inl rfl, fun _ _ _ => ⟨_, rfl, rfl⟩⟩
theorem zX_gX4_9_50 : zx_fl zX_sd RX4 9 50 1 (fun ad _ => .ref (ad 51)) := ⟨by decide, 3, _, _, _, _, rfl, by decide, zu_X4, zw_373, Or.inl rfl, fun _ _ _ => ⟨_, rfl, rfl⟩⟩
theorem zX_a51 : zx_ai zX_sd 51 4 := ⟨by decide, fun _ _ _ => rfl⟩
theorem zX_a43 : zx_ai zX_sd 43 10 := ⟨by decide, fun _ _ _ => rfl⟩
theorem zX_gX7_15_42 : zx_fl zX_sd RX7 15 42 0 (fun ad _ => .ref (ad 43)) := ⟨by decide, 6, _, _, _, _, rfl, by decide, zu_X7, zw_330, Or.inr zw_331, fun _ _ _ => ⟨_, rfl, rfl⟩⟩
theorem zX_sX7_19 : zx_sw zX_sd RX7 19 yJ7_fill_53178 cJ7_fill_53178 4 none 2 := ⟨zw_742, zw_490, zw_75, zw_491, by decide +kernel⟩
theorem zX_gX4_29_50 : zx_fl zX_sd RX4 29 50 5 (fun _ f => .int (f 5)) := ⟨by decide, 3, _, _, _, _, rfl, by decide, zu_X4, zw_380, Or.inl rfl, fun _ _ _ => ⟨_, rfl, rfl⟩⟩
theorem zX_gX4_18_50 : zx_fl zX_sd RX4 18 50 3 (fun _ f => .int (f 3)) := ⟨by decide, 3, _, _, _, _, rfl, by decide, zu_X4, zw_376, Or.inl rfl, fun _ _ _ => ⟨_, rfl, rfl⟩⟩
theorem zX_pX4_29_50 : zx_fp zX_sd RX4 29 50 5 .int := ⟨by decide, 3, _, _, _, tyX4, rfl, by decide, zu_X4, tyX4_ok, nmX4, zw_380, rfl, by decide +kernel, fun _ _ _ => ⟨_, rfl, Nat.le_of_ble_eq_true rfl, fun _ => rfl⟩⟩
theorem zX_gX7_9_42 : zx_fl zX_sd RX7 9 42 1 (fun ad _ => .ref (ad 1)) := ⟨by decide, 6, _, _, _, _, rfl, by decide, zu_X7, zw_328, Or.inl rfl, fun _ _ _ => ⟨_, rfl, rfl⟩⟩
theorem zX_gX7_25_1 : zx_fl zX_sd RX7 25 1 2 (fun ad _ => .ref (ad 4)) := ⟨by decide, 4, _, _, _, _, rfl, by decide, zu_X5, zw_102, Or.inl rfl, fun _ _ _ => ⟨_, rfl, rfl⟩⟩
theorem zX_gX7_30_1 : zx_fl zX_sd RX7 30 1 3 (fun ad _ => .ref (ad 5)) := ⟨by decide, 4, _, _, _, _, rfl, by decide, zu_X5, zw_105, Or.inl rfl, fun _ _ _ => ⟨_, rfl, rfl⟩⟩
theorem zX_gX7_33_1 : zx_fl zX_sd RX7 33 1 4 (fun ad _ => .ref (ad 6)) := ⟨by decide, 4, _, _, _, _, rfl, by decide, zu_X5, zw_109, Or.inl rfl, fun _ _ _ => ⟨_, rfl, rfl⟩⟩
theorem zX_sX4_102 : zx_sw zX_sd RX4 102 yX4_divide cX4_divide 2 (some .int) 2 := ⟨zw_810, zw_811, zw_72, zw_812, by decide +kernel⟩
theorem zX_gX4_32_50 : zx_fl zX_sd RX4 32 50 6 (fun _ f => .int (f 6)) := ⟨by decide, 3, _, _, _, _, rfl, by decide, zu_X4, zw_382, Or.inl rfl, fun _ _ _ => ⟨_, rfl, rfl⟩⟩
theorem zX_pX4_32_50 : zx_fp zX_sd RX4 32 50 6 .int := ⟨by decide, 3, _, _, _, tyX4, rfl, by decide, zu_X4, tyX4_ok, nmX4, zw_382, rfl, by decide +kernel, fun _ _ _ => ⟨_, rfl, Nat.le_of_ble_eq_true rfl, fun _ => rfl⟩⟩
theorem zX_gX4_15_50 : zx_fl zX_sd RX4 15 50 2 (fun ad _ => .ref (ad 52)) := ⟨by decide, 3, _, _, _, _, rfl, by decide, zu_X4, zw_374, Or.inl rfl, fun _ _ _ => ⟨_, rfl, rfl⟩⟩
theorem zX_a52 : zx_ai zX_sd 52 60 := ⟨by decide, fun _ _ _ => rfl⟩
theorem zX_gX4_58_42 : zx_fl zX_sd RX4 58 42 0 (fun ad _ => .ref (ad 43)) := ⟨by decide, 6, _, _, _, _, rfl, by decide, zu_X7, zw_334, Or.inl rfl, fun _ _ _ => ⟨_, rfl, rfl⟩⟩
theorem zX_gX4_22_50 : zx_fl zX_sd RX4 22 50 0 (fun ad _ => .ref (ad 1)) := ⟨by decide, 3, _, _, _, _, rfl, by decide, zu_X4, zw_372, Or.inl rfl, fun _ _ _ => ⟨_, rfl, rfl⟩⟩
theorem zX_gX4_79_1 : zx_fl zX_sd RX4 79 1 1 (fun ad _ => .ref (ad 3)) := ⟨by decide, 4, _, _, _, _, rfl, by decide, zu_X5, zw_98, Or.inl rfl, fun _ _ _ => ⟨_, rfl, rfl⟩⟩
theorem zX_bX4_82_X7 : zx_aw zX_sd RX4 82 RX7 "ValueBench$Form" ⟨"ValueBench$Form", "target", "(I)I"⟩ yX7_target cX7_target 2 (some .int) 1 := ⟨zw_776, zw_778, zw_779, zw_780, zw_70, zw_781, (by decide +kernel), by decide +kernel⟩
theorem zX_o42 : zx_oc zX_sd 42 RX7 := ⟨by decide, 6, _, _, rfl, fun _ _ _ => ⟨_, rfl⟩⟩
theorem zX_gX4_85_1 : zx_fl zX_sd RX4 85 1 3 (fun ad _ => .ref (ad 5)) := ⟨by decide, 4, _, _, _, _, rfl, by decide, zu_X5, zw_106, Or.inl rfl, fun _ _ _ => ⟨_, rfl, rfl⟩⟩
theorem zX_bX4_88_X7 : zx_aw zX_sd RX4 88 RX7 "ValueBench$Form" ⟨"ValueBench$Form", "left", "(I)I"⟩ yX7_left cX7_left 2 (some .int) 1 := ⟨zw_785, zw_787, zw_788, zw_789, zw_70, zw_790, (by decide +kernel), by decide +kernel⟩
theorem zX_vX4_91 : zx_vw zX_sd RX4 91 yX4_tell cX4_tell 2 none 1 := ⟨zw_794, zw_796, zw_27, zw_72, zw_797, by decide +kernel⟩
theorem zX_o50 : zx_oc zX_sd 50 RX4 := ⟨by decide, 3, _, _, rfl, fun _ _ _ => ⟨_, rfl⟩⟩
theorem zX_bX4_95_X7 : zx_aw zX_sd RX4 95 RX7 "ValueBench$Form" ⟨"ValueBench$Form", "right", "(I)I"⟩ yX7_right cX7_right 2 (some .int) 1 := ⟨zw_798, zw_800, zw_801, zw_802, zw_70, zw_803, (by decide +kernel), by decide +kernel⟩
theorem zX_sX4_98 : zx_sw zX_sd RX4 98 yX4_compute cX4_compute 3 (some .int) 3 := ⟨zw_807, zw_808, zw_72, zw_809, by decide +kernel⟩
theorem zX_gX4_68_1 : zx_fl zX_sd RX4 68 1 0 (fun ad _ => .ref (ad 2)) := ⟨by decide, 4, _, _, _, _, rfl, by decide, zu_X5, zw_92, Or.inl rfl, fun _ _ _ => ⟨_, rfl, rfl⟩⟩
theorem zX_gX4_35_50 : zx_fl zX_sd RX4 35 50 7 (fun _ f => .int (f 7)) := ⟨by decide, 3, _, _, _, _, rfl, by decide, zu_X4, zw_384, Or.inl rfl, fun _ _ _ => ⟨_, rfl, rfl⟩⟩
theorem zX_bX4_71_X7 : zx_aw zX_sd RX4 71 RX7 "ValueBench$Form" ⟨"ValueBench$Form", "keeps", "(I)Z"⟩ yX7_keeps cX7_keeps 2 (some .boolean) 1 := ⟨zw_759, zw_761, zw_762, zw_763, zw_70, zw_764, (by decide +kernel), by decide +kernel⟩
theorem zX_vX4_48 : zx_vw zX_sd RX4 48 yX4_pay cX4_pay 1 (some .boolean) 0 := ⟨zw_768, zw_770, zw_25, zw_72, zw_771, by decide +kernel⟩
theorem zX_vX4_75 : zx_vw zX_sd RX4 75 yX4_follow cX4_follow 5 none 2 := ⟨zw_772, zw_774, zw_26, zw_72, zw_775, by decide +kernel⟩
theorem zX_vX7_36 : zx_vw zX_sd RX7 36 yX5_endVariable cX5_endVariable 2 (some .int) 1 := ⟨zw_820, zw_589, zw_590, zw_63, zw_591, by decide +kernel⟩
theorem zX_vX4_64 : zx_vw zX_sd RX4 64 yX5_next cX5_next 3 (some .int) 2 := ⟨zw_824, zw_825, zw_826, zw_63, zw_827, by decide +kernel⟩
theorem zX_pX4_35_50 : zx_fp zX_sd RX4 35 50 7 .int := ⟨by decide, 3, _, _, _, tyX4, rfl, by decide, zu_X4, tyX4_ok, nmX4, zw_384, rfl, by decide +kernel, fun _ _ _ => ⟨_, rfl, Nat.le_of_ble_eq_true rfl, fun _ => rfl⟩⟩
theorem zX_bX4_38_X7 : zx_aw zX_sd RX4 38 RX7 "ValueBench$Form" ⟨"ValueBench$Form", "begin", "(II)V"⟩ yX7_begin cX7_begin 3 none 2 := ⟨zw_736, zw_738, zw_739, zw_740, zw_70, zw_741, (by decide +kernel), by decide +kernel⟩
theorem zX_vX4_44 : zx_vw zX_sd RX4 44 yX4_followBlock cX4_followBlock 3 (some .boolean) 1 := ⟨zw_755, zw_757, zw_24, zw_72, zw_758, by decide +kernel⟩
theorem zX_vX4_52 : zx_vw zX_sd RX4 52 yX5_howCounts cX5_howCounts 2 (some .int) 1 := ⟨zw_813, zw_510, zw_511, zw_63, zw_512, by decide +kernel⟩
theorem zX_bX4_61_X7 : zx_aw zX_sd RX4 61 RX7 "ValueBench$Form" ⟨"ValueBench$Form", "endCell", "(I)I"⟩ yX7_endCell cX7_endCell 2 (some .int) 1 := ⟨zw_814, zw_816, zw_817, zw_818, zw_70, zw_819, (by decide +kernel), by decide +kernel⟩
theorem zX_pX4_26_50 : zx_fp zX_sd RX4 26 50 4 .int := ⟨by decide, 3, _, _, _, tyX4, rfl, by decide, zu_X4, tyX4_ok, nmX4, zw_378, rfl, by decide +kernel, fun _ _ _ => ⟨_, rfl, Nat.le_of_ble_eq_true rfl, fun _ => rfl⟩⟩
theorem zX_gX8_27_44 : zx_fl zX_sd RX8 27 44 4 (fun _ _ => .null) := ⟨by decide, 7, _, _, _, _, rfl, by decide, zu_X8, zw_349, Or.inl rfl, fun _ _ _ => ⟨_, rfl, rfl⟩⟩
theorem zX_sX2_34 : zx_sw zX_sd RX2 34 yJ6_bitCount_0f7a4 cJ6_bitCount_0f7a4 1 (some .int) 1 := ⟨zw_750, zw_569, zw_76, zw_570, by decide +kernel⟩
theorem zX_vX8_66 : zx_vw zX_sd RX8 66 yX8_goes cX8_goes 2 (some .boolean) 1 := ⟨zw_751, zw_753, zw_23, zw_71, zw_754, by decide +kernel⟩
theorem zX_o44 : zx_oc zX_sd 44 RX8 := ⟨by decide, 7, _, _, rfl, fun _ _ _ => ⟨_, rfl⟩⟩
theorem zX_gX8_9_44 : zx_fl zX_sd RX8 9 44 6 (fun ad _ => .ref (ad 46)) := ⟨by decide, 7, _, _, _, _, rfl, by decide, zu_X8, zw_351, Or.inl rfl, fun _ _ _ => ⟨_, rfl, rfl⟩⟩
theorem zX_gX8_70_44 : zx_fl zX_sd RX8 70 44 0 (fun ad _ => .ref (ad 45)) := ⟨by decide, 7, _, _, _, _, rfl, by decide, zu_X8, zw_332, Or.inr zw_333, fun _ _ _ => ⟨_, rfl, rfl⟩⟩
theorem zX_gX8_40_44 : zx_fl zX_sd RX8 40 44 5 (fun ad _ => .ref (ad 24)) := ⟨by decide, 7, _, _, _, _, rfl, by decide, zu_X8, zw_350, Or.inl rfl, fun _ _ _ => ⟨_, rfl, rfl⟩⟩
theorem zX_gX8_73_24 : zx_fl zX_sd RX8 73 24 0 (fun ad _ => .ref (ad 25)) := ⟨by decide, 5, _, _, _, _, rfl, by decide, zu_X6, zw_193, Or.inl rfl, fun _ _ _ => ⟨_, rfl, rfl⟩⟩
theorem zX_gX8_23_44 : zx_fl zX_sd RX8 23 44 3 (fun ad _ => .ref (ad 18)) := ⟨by decide, 7, _, _, _, _, rfl, by decide, zu_X8, zw_348, Or.inl rfl, fun _ _ _ => ⟨_, rfl, rfl⟩⟩
theorem zX_gX8_78_18 : zx_fl zX_sd RX8 78 18 4 (fun ad _ => .ref (ad 23)) := ⟨by decide, 8, _, _, _, _, rfl, by decide, zu_X9, zw_229, Or.inl rfl, fun _ _ _ => ⟨_, rfl, rfl⟩⟩
theorem zX_a45 : zx_ai zX_sd 45 261 := ⟨by decide, fun _ _ _ => rfl⟩
theorem zX_a46 : zx_ai zX_sd 46 10 := ⟨by decide, fun _ _ _ => rfl⟩
theorem zX_gX8_45_18 : zx_fl zX_sd RX8 45 18 8 (fun ad _ => .ref (ad 30)) := ⟨by decide, 8, _, _, _, _, rfl, by decide, zu_X9, zw_243, Or.inl rfl, fun _ _ _ => ⟨_, rfl, rfl⟩⟩
theorem zX_gX8_48_18 : zx_fl zX_sd RX8 48 18 7 (fun ad _ => .ref (ad 29)) := ⟨by decide, 8, _, _, _, _, rfl, by decide, zu_X9, zw_241, Or.inl rfl, fun _ _ _ => ⟨_, rfl, rfl⟩⟩
theorem zX_gX8_19_44 : zx_fl zX_sd RX8 19 44 2 (fun ad _ => .ref (ad 11)) := ⟨by decide, 7, _, _, _, _, rfl, by decide, zu_X8, zw_347, Or.inl rfl, fun _ _ _ => ⟨_, rfl, rfl⟩⟩
theorem zX_gX8_51_11 : zx_fl zX_sd RX8 51 11 1 (fun ad _ => .ref (ad 13)) := ⟨by decide, 1, _, _, _, _, rfl, by decide, zu_X2, zw_147, Or.inl rfl, fun _ _ _ => ⟨_, rfl, rfl⟩⟩
theorem zX_sX8_62 : zx_sw zX_sd RX8 62 yX2_placeIn cX2_placeIn 2 (some .int) 2 := ⟨zw_747, zw_748, zw_64, zw_749, by decide +kernel⟩
theorem zX_sX8_56 : zx_sw zX_sd RX8 56 yJ6_bitCount_0f7a4 cJ6_bitCount_0f7a4 1 (some .int) 1 := ⟨zw_746, zw_569, zw_76, zw_570, by decide +kernel⟩
theorem zX_gX8_81_18 : zx_fl zX_sd RX8 81 18 6 (fun ad _ => .ref (ad 28)) := ⟨by decide, 8, _, _, _, _, rfl, by decide, zu_X9, zw_239, Or.inl rfl, fun _ _ _ => ⟨_, rfl, rfl⟩⟩
theorem zX_gX8_15_44 : zx_fl zX_sd RX8 15 44 1 (fun ad _ => .ref (ad 1)) := ⟨by decide, 7, _, _, _, _, rfl, by decide, zu_X8, zw_346, Or.inl rfl, fun _ _ _ => ⟨_, rfl, rfl⟩⟩
theorem zX_gX8_84_1 : zx_fl zX_sd RX8 84 1 1 (fun ad _ => .ref (ad 3)) := ⟨by decide, 4, _, _, _, _, rfl, by decide, zu_X5, zw_97, Or.inl rfl, fun _ _ _ => ⟨_, rfl, rfl⟩⟩
theorem zX_gX8_89_24 : zx_fl zX_sd RX8 89 24 1 (fun ad _ => .ref (ad 26)) := ⟨by decide, 5, _, _, _, _, rfl, by decide, zu_X6, zw_199, Or.inl rfl, fun _ _ _ => ⟨_, rfl, rfl⟩⟩
theorem zX_gX4_58_44 : zx_fl zX_sd RX4 58 44 0 (fun ad _ => .ref (ad 45)) := ⟨by decide, 7, _, _, _, _, rfl, by decide, zu_X8, zw_334, Or.inl rfl, fun _ _ _ => ⟨_, rfl, rfl⟩⟩
theorem zX_bX4_82_X8 : zx_aw zX_sd RX4 82 RX8 "ValueBench$Form" ⟨"ValueBench$Form", "target", "(I)I"⟩ yX8_target cX8_target 2 (some .int) 1 := ⟨zw_776, zw_778, zw_782, zw_783, zw_71, zw_784, (by decide +kernel), by decide +kernel⟩
theorem zX_bX4_88_X8 : zx_aw zX_sd RX4 88 RX8 "ValueBench$Form" ⟨"ValueBench$Form", "left", "(I)I"⟩ yX8_left cX8_left 2 (some .int) 1 := ⟨zw_785, zw_787, zw_791, zw_792, zw_71, zw_793, (by decide +kernel), by decide +kernel⟩
theorem zX_bX4_95_X8 : zx_aw zX_sd RX4 95 RX8 "ValueBench$Form" ⟨"ValueBench$Form", "right", "(I)I"⟩ yX8_right cX8_right 2 (some .int) 1 := ⟨zw_798, zw_800, zw_804, zw_805, zw_71, zw_806, (by decide +kernel), by decide +kernel⟩
theorem zX_bX4_71_X8 : zx_aw zX_sd RX4 71 RX8 "ValueBench$Form" ⟨"ValueBench$Form", "keeps", "(I)Z"⟩ yX8_keeps cX8_keeps 3 (some .boolean) 1 := ⟨zw_759, zw_761, zw_765, zw_766, zw_71, zw_767, (by decide +kernel), by decide +kernel⟩
theorem zX_gX8_92_24 : zx_fl zX_sd RX8 92 24 2 (fun ad _ => .ref (ad 27)) := ⟨by decide, 5, _, _, _, _, rfl, by decide, zu_X6, zw_205, Or.inl rfl, fun _ _ _ => ⟨_, rfl, rfl⟩⟩
theorem zX_bX4_38_X8 : zx_aw zX_sd RX4 38 RX8 "ValueBench$Form" ⟨"ValueBench$Form", "begin", "(II)V"⟩ yX8_begin cX8_begin 8 none 2 := ⟨zw_736, zw_738, zw_743, zw_744, zw_71, zw_745, (by decide +kernel), by decide +kernel⟩
theorem zX_bX4_61_X8 : zx_aw zX_sd RX4 61 RX8 "ValueBench$Form" ⟨"ValueBench$Form", "endCell", "(I)I"⟩ yX8_endCell cX8_endCell 2 (some .int) 1 := ⟨zw_814, zw_816, zw_821, zw_822, zw_71, zw_823, (by decide +kernel), by decide +kernel⟩
theorem zX_gX8_27_47 : zx_fl zX_sd RX8 27 47 4 (fun ad _ => .ref (ad 36)) := ⟨by decide, 7, _, _, _, _, rfl, by decide, zu_X8, zw_349, Or.inl rfl, fun _ _ _ => ⟨_, rfl, rfl⟩⟩
theorem zX_gX8_41_36 : zx_fl zX_sd RX8 41 36 0 (fun ad _ => .ref (ad 37)) := ⟨by decide, 2, _, _, _, _, rfl, by decide, zu_X3, zw_304, Or.inl rfl, fun _ _ _ => ⟨_, rfl, rfl⟩⟩
theorem zX_o47 : zx_oc zX_sd 47 RX8 := ⟨by decide, 7, _, _, rfl, fun _ _ _ => ⟨_, rfl⟩⟩
theorem zX_gX8_9_47 : zx_fl zX_sd RX8 9 47 6 (fun ad _ => .ref (ad 49)) := ⟨by decide, 7, _, _, _, _, rfl, by decide, zu_X8, zw_351, Or.inl rfl, fun _ _ _ => ⟨_, rfl, rfl⟩⟩
theorem zX_gX8_70_47 : zx_fl zX_sd RX8 70 47 0 (fun ad _ => .ref (ad 48)) := ⟨by decide, 7, _, _, _, _, rfl, by decide, zu_X8, zw_332, Or.inr zw_333, fun _ _ _ => ⟨_, rfl, rfl⟩⟩
theorem zX_gX8_40_47 : zx_fl zX_sd RX8 40 47 5 (fun ad _ => .ref (ad 38)) := ⟨by decide, 7, _, _, _, _, rfl, by decide, zu_X8, zw_350, Or.inl rfl, fun _ _ _ => ⟨_, rfl, rfl⟩⟩
theorem zX_gX8_73_38 : zx_fl zX_sd RX8 73 38 0 (fun ad _ => .ref (ad 39)) := ⟨by decide, 5, _, _, _, _, rfl, by decide, zu_X6, zw_193, Or.inl rfl, fun _ _ _ => ⟨_, rfl, rfl⟩⟩
theorem zX_gX8_23_47 : zx_fl zX_sd RX8 23 47 3 (fun ad _ => .ref (ad 18)) := ⟨by decide, 7, _, _, _, _, rfl, by decide, zu_X8, zw_348, Or.inl rfl, fun _ _ _ => ⟨_, rfl, rfl⟩⟩
theorem zX_a48 : zx_ai zX_sd 48 261 := ⟨by decide, fun _ _ _ => rfl⟩
theorem zX_a49 : zx_ai zX_sd 49 10 := ⟨by decide, fun _ _ _ => rfl⟩
theorem zX_gX8_19_47 : zx_fl zX_sd RX8 19 47 2 (fun ad _ => .ref (ad 11)) := ⟨by decide, 7, _, _, _, _, rfl, by decide, zu_X8, zw_347, Or.inl rfl, fun _ _ _ => ⟨_, rfl, rfl⟩⟩
theorem zX_gX8_15_47 : zx_fl zX_sd RX8 15 47 1 (fun ad _ => .ref (ad 1)) := ⟨by decide, 7, _, _, _, _, rfl, by decide, zu_X8, zw_346, Or.inl rfl, fun _ _ _ => ⟨_, rfl, rfl⟩⟩
theorem zX_gX8_89_38 : zx_fl zX_sd RX8 89 38 1 (fun ad _ => .ref (ad 40)) := ⟨by decide, 5, _, _, _, _, rfl, by decide, zu_X6, zw_199, Or.inl rfl, fun _ _ _ => ⟨_, rfl, rfl⟩⟩
theorem zX_gX4_58_47 : zx_fl zX_sd RX4 58 47 0 (fun ad _ => .ref (ad 48)) := ⟨by decide, 7, _, _, _, _, rfl, by decide, zu_X8, zw_334, Or.inl rfl, fun _ _ _ => ⟨_, rfl, rfl⟩⟩
theorem zX_gX8_92_38 : zx_fl zX_sd RX8 92 38 2 (fun ad _ => .ref (ad 41)) := ⟨by decide, 5, _, _, _, _, rfl, by decide, zu_X6, zw_205, Or.inl rfl, fun _ _ _ => ⟨_, rfl, rfl⟩⟩
theorem zX_gX10_67_0 : zx_fl zX_sd RX10 67 0 8 (fun ad _ => .ref (ad 50)) := ⟨by decide, 9, _, _, _, _, rfl, by decide, zu_X10, zw_411, Or.inl rfl, fun _ _ _ => ⟨_, rfl, rfl⟩⟩
theorem zX_vX10_201 : zx_vw zX_sd RX10 201 yX4_takeInputs cX4_takeInputs 5 none 4 := ⟨zw_728, zw_729, zw_730, zw_72, zw_731, by decide +kernel⟩
theorem zX_gX10_61_0 : zx_fl zX_sd RX10 61 0 7 (fun ad _ => .ref (ad 47)) := ⟨by decide, 9, _, _, _, _, rfl, by decide, zu_X10, zw_410, Or.inl rfl, fun _ _ _ => ⟨_, rfl, rfl⟩⟩
theorem zX_vX10_205 : zx_vw zX_sd RX10 205 yX4_perform cX4_perform 6 (some .int) 1 := ⟨zw_732, zw_733, zw_734, zw_72, zw_735, by decide +kernel⟩
theorem zX_gX10_58_0 : zx_fl zX_sd RX10 58 0 6 (fun ad _ => .ref (ad 44)) := ⟨by decide, 9, _, _, _, _, rfl, by decide, zu_X10, zw_409, Or.inl rfl, fun _ _ _ => ⟨_, rfl, rfl⟩⟩
theorem zX_gX10_49_0 : zx_fl zX_sd RX10 49 0 5 (fun ad _ => .ref (ad 42)) := ⟨by decide, 9, _, _, _, _, rfl, by decide, zu_X10, zw_408, Or.inl rfl, fun _ _ _ => ⟨_, rfl, rfl⟩⟩
theorem zX_gX10_209_50 : zx_fl zX_sd RX10 209 50 3 (fun _ f => .int (f 3)) := ⟨by decide, 3, _, _, _, _, rfl, by decide, zu_X4, zw_377, Or.inl rfl, fun _ _ _ => ⟨_, rfl, rfl⟩⟩
theorem zX_pX10_209_50 : zx_fp zX_sd RX10 209 50 3 .int := ⟨by decide, 3, _, _, _, tyX4, rfl, by decide, zu_X4, tyX4_ok, nmX4, zw_377, rfl, by decide +kernel, fun _ _ _ => ⟨_, rfl, Nat.le_of_ble_eq_true rfl, fun _ => rfl⟩⟩
theorem zX_gX10_212_50 : zx_fl zX_sd RX10 212 50 4 (fun _ f => .int (f 4)) := ⟨by decide, 3, _, _, _, _, rfl, by decide, zu_X4, zw_379, Or.inl rfl, fun _ _ _ => ⟨_, rfl, rfl⟩⟩
theorem zX_gX10_215_50 : zx_fl zX_sd RX10 215 50 5 (fun _ f => .int (f 5)) := ⟨by decide, 3, _, _, _, _, rfl, by decide, zu_X4, zw_381, Or.inl rfl, fun _ _ _ => ⟨_, rfl, rfl⟩⟩
theorem zX_gX10_218_50 : zx_fl zX_sd RX10 218 50 6 (fun _ f => .int (f 6)) := ⟨by decide, 3, _, _, _, _, rfl, by decide, zu_X4, zw_383, Or.inl rfl, fun _ _ _ => ⟨_, rfl, rfl⟩⟩
theorem zX_gX10_221_50 : zx_fl zX_sd RX10 221 50 7 (fun _ f => .int (f 7)) := ⟨by decide, 3, _, _, _, _, rfl, by decide, zu_X4, zw_385, Or.inl rfl, fun _ _ _ => ⟨_, rfl, rfl⟩⟩
theorem zX_gX10_224_50 : zx_fl zX_sd RX10 224 50 2 (fun ad _ => .ref (ad 52)) := ⟨by decide, 3, _, _, _, _, rfl, by decide, zu_X4, zw_375, Or.inl rfl, fun _ _ _ => ⟨_, rfl, rfl⟩⟩
theorem zX_gX10_227_11 : zx_fl zX_sd RX10 227 11 6 (fun _ f => .int (f 6)) := ⟨by decide, 1, _, _, _, _, rfl, by decide, zu_X2, zw_164, Or.inl rfl, fun _ _ _ => ⟨_, rfl, rfl⟩⟩
theorem zX_gX10_230_18 : zx_fl zX_sd RX10 230 18 11 (fun _ f => .int (f 11)) := ⟨by decide, 8, _, _, _, _, rfl, by decide, zu_X9, zw_250, Or.inl rfl, fun _ _ _ => ⟨_, rfl, rfl⟩⟩
theorem zX_gX10_233_33 : zx_fl zX_sd RX10 233 33 2 (fun _ f => .int (f 2)) := ⟨by decide, 0, _, _, _, _, rfl, by decide, zu_X0, zw_287, Or.inl rfl, fun _ _ _ => ⟨_, rfl, rfl⟩⟩
theorem zX_gX10_234_36 : zx_fl zX_sd RX10 234 36 2 (fun _ f => .int (f 2)) := ⟨by decide, 2, _, _, _, _, rfl, by decide, zu_X3, zw_310, Or.inl rfl, fun _ _ _ => ⟨_, rfl, rfl⟩⟩
theorem zX_vX10_237 : zx_vw zX_sd RX10 237 yX9_allChoices cX9_allChoices 3 (some .int) 0 := ⟨zw_844, zw_845, zw_846, zw_65, zw_847, by decide +kernel⟩
