def zM_L (cz : ClassId × ClassId) (ad : Nat → Nat) (k : Nat) (f : Nat → Int32) : va_E := match k with
  | 0 => .inr (10, [.int (f 0), .int (f 1), .ref (ad 1), .ref (ad 2), .ref (ad 3), .ref (ad 4), .ref (ad 5), .ref (ad 6), .ref (ad 7), .ref (ad 8), .ref (ad 9), .int (f 11), .ref (ad 10), .ref (ad 11), .ref (ad 12), .ref (ad 13), .ref (ad 14), .ref (ad 15), .int (f 18), .ref (ad 16), .ref (ad 17), .ref (ad 18), .ref (ad 19), .ref (ad 20), .ref (ad 21), .ref (ad 22), .ref (ad 23), .ref (ad 24), .ref (ad 25), .ref (ad 26), .ref (ad 27), .ref (ad 28), .ref (ad 29), .ref (ad 30), .int (f 34), .int (f 35), .int (f 36), .int (f 37), .int (f 38), .ref (ad 31), .ref (ad 32), .ref (ad 33), .ref (ad 34), .ref (ad 35)])
  | 1 => .inl (cz.1, 1600, .inl f)
  | 2 => .inl (cz.1, 1600, .inl f)
  | 3 => .inl (cz.1, 1600, .inl f)
  | 4 => .inl (cz.1, 1600, .inl f)
  | 5 => .inl (cz.1, 16, .inl f)
  | 6 => .inl (cz.1, 16, .inl f)
  | 7 => .inl (cz.1, 16, .inl f)
  | 8 => .inl (cz.1, 16, .inl f)
  | 9 => .inl (cz.1, 16, .inl f)
  | 10 => .inl (cz.2, 16, .inl f)
  | 11 => .inl (cz.2, 16, .inl f)
  | 12 => .inl (cz.2, 256, .inl f)
  | 13 => .inl (cz.1, 16, .inl f)
  | 14 => .inl (cz.2, 256, .inl f)
  | 15 => .inl (cz.2, 160, .inl f)
  | 16 => .inl (cz.1, 270, .inl f)
  | 17 => .inl (cz.1, 270, .inl f)
  | 18 => .inl (cz.1, 270, .inl f)
  | 19 => .inl (cz.1, 270, .inl f)
  | 20 => .inl (cz.1, 270, .inl f)
  | 21 => .inl (cz.1, 5400, .inl f)
  | 22 => .inl (cz.1, 270, .inl f)
  | 23 => .inl (cz.1, 160, .inl f)
  | 24 => .inl (cz.1, 1600, .inl f)
  | 25 => .inl (cz.1, 160, .inl f)
  | 26 => .inl (cz.1, 160, .inl f)
  | 27 => .inl (cz.1, 10, .inl f)
  | 28 => .inl (cz.1, 270, .inl f)
  | 29 => .inl (cz.1, 270, .inl f)
  | 30 => .inl (cz.2, 270, .inl f)
  | 31 => .inl (cz.1, 60, .inl f)
  | 32 => .inl (cz.1, 10, .inl f)
  | 33 => .inl (cz.1, 270, .inl f)
  | 34 => .inl (cz.1, 270, .inl f)
  | _ => .inl (cz.1, 4, .inl f)
def zM_sd : zx_D := (zM_L, 36, zx_cl, zx_W, zx_N)
theorem zM_So : zx_So zM_sd := ⟨fun w h => (List.mem_filter.mp h).2, zx_N_ok⟩
theorem zM_gX11_120_0 : zx_fl zM_sd RX11 120 0 0 (fun _ f => .int (f 0)) := ⟨by decide, 10, _, _, _, _, rfl, by decide, zu_X11, zw_854, Or.inl rfl, fun _ _ _ => ⟨_, rfl, rfl⟩⟩
theorem zM_gX11_22_0 : zx_fl zM_sd RX11 22 0 6 (fun ad _ => .ref (ad 5)) := ⟨by decide, 10, _, _, _, _, rfl, by decide, zu_X11, zw_860, Or.inl rfl, fun _ _ _ => ⟨_, rfl, rfl⟩⟩
theorem zM_a5 : zx_ai zM_sd 5 16 := ⟨by decide, fun _ _ _ => rfl⟩
theorem zM_gX11_25_0 : zx_fl zM_sd RX11 25 0 7 (fun ad _ => .ref (ad 6)) := ⟨by decide, 10, _, _, _, _, rfl, by decide, zu_X11, zw_861, Or.inl rfl, fun _ _ _ => ⟨_, rfl, rfl⟩⟩
theorem zM_a6 : zx_ai zM_sd 6 16 := ⟨by decide, fun _ _ _ => rfl⟩
theorem zM_gX11_28_0 : zx_fl zM_sd RX11 28 0 8 (fun ad _ => .ref (ad 7)) := ⟨by decide, 10, _, _, _, _, rfl, by decide, zu_X11, zw_862, Or.inl rfl, fun _ _ _ => ⟨_, rfl, rfl⟩⟩
theorem zM_a7 : zx_ai zM_sd 7 16 := ⟨by decide, fun _ _ _ => rfl⟩
theorem zM_pX11_120_0 : zx_fp zM_sd RX11 120 0 0 .int := ⟨by decide, 10, _, _, _, tyX11, rfl, by decide, zu_X11, tyX11_ok, nmX11, zw_854, rfl, by decide +kernel, fun _ _ _ => ⟨_, rfl, Nat.le_of_ble_eq_true rfl, fun _ => rfl⟩⟩
theorem zM_pX11_123_0 : zx_fp zM_sd RX11 123 0 11 .boolean := ⟨by decide, 10, _, _, _, tyX11, rfl, by decide, zu_X11, tyX11_ok, nmX11, zw_865, rfl, by decide +kernel, fun _ _ _ => ⟨_, rfl, Nat.le_of_ble_eq_true rfl, fun _ => rfl⟩⟩
theorem zM_vX11_127 : zx_vw zM_sd RX11 127 yX11_isBlock cX11_isBlock 2 (some .boolean) 1 := ⟨zw_995, zw_997, zw_28, zw_73, zw_998, by decide +kernel⟩
theorem zM_o0 : zx_oc zM_sd 0 RX11 := ⟨by decide, 10, _, _, rfl, fun _ _ _ => ⟨_, rfl⟩⟩
theorem zM_gX11_131_0 : zx_fl zM_sd RX11 131 0 1 (fun _ f => .int (f 1)) := ⟨by decide, 10, _, _, _, _, rfl, by decide, zu_X11, zw_855, Or.inl rfl, fun _ _ _ => ⟨_, rfl, rfl⟩⟩
theorem zM_sX11_134 : zx_sw zM_sd RX11 134 yX11_isVariable cX11_isVariable 1 (some .boolean) 1 := ⟨zw_999, zw_1000, zw_73, zw_1001, by decide +kernel⟩
theorem zM_gX11_7_0 : zx_fl zM_sd RX11 7 0 2 (fun ad _ => .ref (ad 1)) := ⟨by decide, 10, _, _, _, _, rfl, by decide, zu_X11, zw_856, Or.inl rfl, fun _ _ _ => ⟨_, rfl, rfl⟩⟩
theorem zM_a1 : zx_ai zM_sd 1 1600 := ⟨by decide, fun _ _ _ => rfl⟩
theorem zM_gX11_13_0 : zx_fl zM_sd RX11 13 0 3 (fun ad _ => .ref (ad 2)) := ⟨by decide, 10, _, _, _, _, rfl, by decide, zu_X11, zw_857, Or.inl rfl, fun _ _ _ => ⟨_, rfl, rfl⟩⟩
theorem zM_a2 : zx_ai zM_sd 2 1600 := ⟨by decide, fun _ _ _ => rfl⟩
theorem zM_gX11_16_0 : zx_fl zM_sd RX11 16 0 4 (fun ad _ => .ref (ad 3)) := ⟨by decide, 10, _, _, _, _, rfl, by decide, zu_X11, zw_858, Or.inl rfl, fun _ _ _ => ⟨_, rfl, rfl⟩⟩
theorem zM_a3 : zx_ai zM_sd 3 1600 := ⟨by decide, fun _ _ _ => rfl⟩
theorem zM_gX11_19_0 : zx_fl zM_sd RX11 19 0 5 (fun ad _ => .ref (ad 4)) := ⟨by decide, 10, _, _, _, _, rfl, by decide, zu_X11, zw_859, Or.inl rfl, fun _ _ _ => ⟨_, rfl, rfl⟩⟩
theorem zM_a4 : zx_ai zM_sd 4 1600 := ⟨by decide, fun _ _ _ => rfl⟩
theorem zM_pX11_131_0 : zx_fp zM_sd RX11 131 0 1 .int := ⟨by decide, 10, _, _, _, tyX11, rfl, by decide, zu_X11, tyX11_ok, nmX11, zw_855, rfl, by decide +kernel, fun _ _ _ => ⟨_, rfl, Nat.le_of_ble_eq_true rfl, fun _ => rfl⟩⟩
theorem zM_gX11_31_0 : zx_fl zM_sd RX11 31 0 9 (fun ad _ => .ref (ad 8)) := ⟨by decide, 10, _, _, _, _, rfl, by decide, zu_X11, zw_863, Or.inl rfl, fun _ _ _ => ⟨_, rfl, rfl⟩⟩
theorem zM_a8 : zx_ai zM_sd 8 16 := ⟨by decide, fun _ _ _ => rfl⟩
theorem zM_gX11_34_0 : zx_fl zM_sd RX11 34 0 10 (fun ad _ => .ref (ad 9)) := ⟨by decide, 10, _, _, _, _, rfl, by decide, zu_X11, zw_864, Or.inl rfl, fun _ _ _ => ⟨_, rfl, rfl⟩⟩
theorem zM_a9 : zx_ai zM_sd 9 16 := ⟨by decide, fun _ _ _ => rfl⟩
theorem zM_vX11_137 : zx_vw zM_sd RX11 137 yX11_howOf cX11_howOf 2 (some .int) 1 := ⟨zw_1030, zw_1032, zw_33, zw_73, zw_1033, by decide +kernel⟩
theorem zM_gX11_41_0 : zx_fl zM_sd RX11 41 0 13 (fun ad _ => .ref (ad 11)) := ⟨by decide, 10, _, _, _, _, rfl, by decide, zu_X11, zw_867, Or.inl rfl, fun _ _ _ => ⟨_, rfl, rfl⟩⟩
theorem zM_a11 : zx_az zM_sd 11 16 := ⟨by decide, fun _ _ _ => rfl⟩
theorem zM_vX11_141 : zx_vw zM_sd RX11 141 yX11_leads cX11_leads 4 (some .boolean) 2 := ⟨zw_1026, zw_1028, zw_32, zw_73, zw_1029, by decide +kernel⟩
theorem zM_gX11_44_0 : zx_fl zM_sd RX11 44 0 14 (fun ad _ => .ref (ad 12)) := ⟨by decide, 10, _, _, _, _, rfl, by decide, zu_X11, zw_868, Or.inl rfl, fun _ _ _ => ⟨_, rfl, rfl⟩⟩
theorem zM_a12 : zx_az zM_sd 12 256 := ⟨by decide, fun _ _ _ => rfl⟩
theorem zM_gX11_37_0 : zx_fl zM_sd RX11 37 0 12 (fun ad _ => .ref (ad 10)) := ⟨by decide, 10, _, _, _, _, rfl, by decide, zu_X11, zw_866, Or.inl rfl, fun _ _ _ => ⟨_, rfl, rfl⟩⟩
theorem zM_a10 : zx_az zM_sd 10 16 := ⟨by decide, fun _ _ _ => rfl⟩
theorem zM_vX11_145 : zx_vw zM_sd RX11 145 yX11_meet cX11_meet 5 none 1 := ⟨zw_1022, zw_1024, zw_31, zw_73, zw_1025, by decide +kernel⟩
theorem zM_vX11_149 : zx_vw zM_sd RX11 149 yX11_dominates1 cX11_dominates1 3 (some .boolean) 2 := ⟨zw_1034, zw_1036, zw_34, zw_73, zw_1037, by decide +kernel⟩
theorem zM_gX11_47_0 : zx_fl zM_sd RX11 47 0 15 (fun ad _ => .ref (ad 13)) := ⟨by decide, 10, _, _, _, _, rfl, by decide, zu_X11, zw_869, Or.inl rfl, fun _ _ _ => ⟨_, rfl, rfl⟩⟩
theorem zM_a13 : zx_ai zM_sd 13 16 := ⟨by decide, fun _ _ _ => rfl⟩
theorem zM_gX11_50_0 : zx_fl zM_sd RX11 50 0 16 (fun ad _ => .ref (ad 14)) := ⟨by decide, 10, _, _, _, _, rfl, by decide, zu_X11, zw_870, Or.inl rfl, fun _ _ _ => ⟨_, rfl, rfl⟩⟩
theorem zM_a14 : zx_az zM_sd 14 256 := ⟨by decide, fun _ _ _ => rfl⟩
theorem zM_gX11_53_0 : zx_fl zM_sd RX11 53 0 17 (fun ad _ => .ref (ad 15)) := ⟨by decide, 10, _, _, _, _, rfl, by decide, zu_X11, zw_871, Or.inl rfl, fun _ _ _ => ⟨_, rfl, rfl⟩⟩
theorem zM_a15 : zx_az zM_sd 15 160 := ⟨by decide, fun _ _ _ => rfl⟩
theorem zM_vX11_152 : zx_vw zM_sd RX11 152 yX11_gives cX11_gives 4 (some .boolean) 2 := ⟨zw_1042, zw_1044, zw_36, zw_73, zw_1045, by decide +kernel⟩
theorem zM_gX11_56_0 : zx_fl zM_sd RX11 56 0 19 (fun ad _ => .ref (ad 16)) := ⟨by decide, 10, _, _, _, _, rfl, by decide, zu_X11, zw_873, Or.inl rfl, fun _ _ _ => ⟨_, rfl, rfl⟩⟩
theorem zM_gX11_155_0 : zx_fl zM_sd RX11 155 0 18 (fun _ f => .int (f 18)) := ⟨by decide, 10, _, _, _, _, rfl, by decide, zu_X11, zw_872, Or.inl rfl, fun _ _ _ => ⟨_, rfl, rfl⟩⟩
theorem zM_a16 : zx_ai zM_sd 16 270 := ⟨by decide, fun _ _ _ => rfl⟩
theorem zM_gX11_59_0 : zx_fl zM_sd RX11 59 0 20 (fun ad _ => .ref (ad 17)) := ⟨by decide, 10, _, _, _, _, rfl, by decide, zu_X11, zw_874, Or.inl rfl, fun _ _ _ => ⟨_, rfl, rfl⟩⟩
theorem zM_a17 : zx_ai zM_sd 17 270 := ⟨by decide, fun _ _ _ => rfl⟩
theorem zM_gX11_62_0 : zx_fl zM_sd RX11 62 0 21 (fun ad _ => .ref (ad 18)) := ⟨by decide, 10, _, _, _, _, rfl, by decide, zu_X11, zw_875, Or.inl rfl, fun _ _ _ => ⟨_, rfl, rfl⟩⟩
theorem zM_a18 : zx_ai zM_sd 18 270 := ⟨by decide, fun _ _ _ => rfl⟩
theorem zM_gX11_65_0 : zx_fl zM_sd RX11 65 0 22 (fun ad _ => .ref (ad 19)) := ⟨by decide, 10, _, _, _, _, rfl, by decide, zu_X11, zw_876, Or.inl rfl, fun _ _ _ => ⟨_, rfl, rfl⟩⟩
theorem zM_a19 : zx_ai zM_sd 19 270 := ⟨by decide, fun _ _ _ => rfl⟩
theorem zM_gX11_68_0 : zx_fl zM_sd RX11 68 0 23 (fun ad _ => .ref (ad 20)) := ⟨by decide, 10, _, _, _, _, rfl, by decide, zu_X11, zw_877, Or.inl rfl, fun _ _ _ => ⟨_, rfl, rfl⟩⟩
theorem zM_a20 : zx_ai zM_sd 20 270 := ⟨by decide, fun _ _ _ => rfl⟩
theorem zM_gX11_74_0 : zx_fl zM_sd RX11 74 0 25 (fun ad _ => .ref (ad 22)) := ⟨by decide, 10, _, _, _, _, rfl, by decide, zu_X11, zw_879, Or.inl rfl, fun _ _ _ => ⟨_, rfl, rfl⟩⟩
theorem zM_a22 : zx_ai zM_sd 22 270 := ⟨by decide, fun _ _ _ => rfl⟩
theorem zM_pX11_155_0 : zx_fp zM_sd RX11 155 0 18 .int := ⟨by decide, 10, _, _, _, tyX11, rfl, by decide, zu_X11, tyX11_ok, nmX11, zw_872, rfl, by decide +kernel, fun _ _ _ => ⟨_, rfl, Nat.le_of_ble_eq_true rfl, fun _ => rfl⟩⟩
theorem zM_gX11_77_0 : zx_fl zM_sd RX11 77 0 26 (fun ad _ => .ref (ad 23)) := ⟨by decide, 10, _, _, _, _, rfl, by decide, zu_X11, zw_880, Or.inl rfl, fun _ _ _ => ⟨_, rfl, rfl⟩⟩
theorem zM_vX11_158 : zx_vw zM_sd RX11 158 yX11_comes cX11_comes 6 (some .int) 5 := ⟨zw_1050, zw_1052, zw_38, zw_73, zw_1053, by decide +kernel⟩
theorem zM_a23 : zx_ai zM_sd 23 160 := ⟨by decide, fun _ _ _ => rfl⟩
theorem zM_a24 : zx_ai zM_sd 24 1600 := ⟨by decide, fun _ _ _ => rfl⟩
theorem zM_gX11_80_0 : zx_fl zM_sd RX11 80 0 27 (fun ad _ => .ref (ad 24)) := ⟨by decide, 10, _, _, _, _, rfl, by decide, zu_X11, zw_881, Or.inl rfl, fun _ _ _ => ⟨_, rfl, rfl⟩⟩
theorem zM_gX11_71_0 : zx_fl zM_sd RX11 71 0 24 (fun ad _ => .ref (ad 21)) := ⟨by decide, 10, _, _, _, _, rfl, by decide, zu_X11, zw_878, Or.inl rfl, fun _ _ _ => ⟨_, rfl, rfl⟩⟩
theorem zM_a21 : zx_ai zM_sd 21 5400 := ⟨by decide, fun _ _ _ => rfl⟩
theorem zM_gX11_89_0 : zx_fl zM_sd RX11 89 0 30 (fun ad _ => .ref (ad 27)) := ⟨by decide, 10, _, _, _, _, rfl, by decide, zu_X11, zw_884, Or.inl rfl, fun _ _ _ => ⟨_, rfl, rfl⟩⟩
theorem zM_a27 : zx_ai zM_sd 27 10 := ⟨by decide, fun _ _ _ => rfl⟩
theorem zM_vX11_166 : zx_vw zM_sd RX11 166 yX11_adds cX11_adds 3 none 2 := ⟨zw_1062, zw_1064, zw_41, zw_73, zw_1065, by decide +kernel⟩
theorem zM_gX11_83_0 : zx_fl zM_sd RX11 83 0 28 (fun ad _ => .ref (ad 25)) := ⟨by decide, 10, _, _, _, _, rfl, by decide, zu_X11, zw_882, Or.inl rfl, fun _ _ _ => ⟨_, rfl, rfl⟩⟩
theorem zM_a25 : zx_ai zM_sd 25 160 := ⟨by decide, fun _ _ _ => rfl⟩
theorem zM_gX11_86_0 : zx_fl zM_sd RX11 86 0 29 (fun ad _ => .ref (ad 26)) := ⟨by decide, 10, _, _, _, _, rfl, by decide, zu_X11, zw_883, Or.inl rfl, fun _ _ _ => ⟨_, rfl, rfl⟩⟩
theorem zM_a26 : zx_ai zM_sd 26 160 := ⟨by decide, fun _ _ _ => rfl⟩
theorem zM_vX11_162 : zx_vw zM_sd RX11 162 yX11_through cX11_through 6 none 3 := ⟨zw_1058, zw_1060, zw_40, zw_73, zw_1061, by decide +kernel⟩
theorem zM_gX11_92_0 : zx_fl zM_sd RX11 92 0 31 (fun ad _ => .ref (ad 28)) := ⟨by decide, 10, _, _, _, _, rfl, by decide, zu_X11, zw_885, Or.inl rfl, fun _ _ _ => ⟨_, rfl, rfl⟩⟩
theorem zM_a28 : zx_ai zM_sd 28 270 := ⟨by decide, fun _ _ _ => rfl⟩
theorem zM_sX11_170 : zx_sw zM_sd RX11 170 yX11_isEven cX11_isEven 1 (some .boolean) 1 := ⟨zw_1078, zw_1079, zw_73, zw_1080, by decide +kernel⟩
theorem zM_vX11_173 : zx_vw zM_sd RX11 173 yX11_isOneSort cX11_isOneSort 4 (some .boolean) 2 := ⟨zw_1070, zw_1072, zw_43, zw_73, zw_1073, by decide +kernel⟩
theorem zM_vX11_176 : zx_vw zM_sd RX11 176 yX11_hangTogether cX11_hangTogether 5 (some .boolean) 2 := ⟨zw_1074, zw_1076, zw_44, zw_73, zw_1077, by decide +kernel⟩
theorem zM_gX11_95_0 : zx_fl zM_sd RX11 95 0 32 (fun ad _ => .ref (ad 29)) := ⟨by decide, 10, _, _, _, _, rfl, by decide, zu_X11, zw_886, Or.inl rfl, fun _ _ _ => ⟨_, rfl, rfl⟩⟩
theorem zM_a29 : zx_ai zM_sd 29 270 := ⟨by decide, fun _ _ _ => rfl⟩
theorem zM_gX11_98_0 : zx_fl zM_sd RX11 98 0 33 (fun ad _ => .ref (ad 30)) := ⟨by decide, 10, _, _, _, _, rfl, by decide, zu_X11, zw_887, Or.inl rfl, fun _ _ _ => ⟨_, rfl, rfl⟩⟩
theorem zM_a30 : zx_az zM_sd 30 270 := ⟨by decide, fun _ _ _ => rfl⟩
theorem zM_vX11_179 : zx_vw zM_sd RX11 179 yX11_isAhead cX11_isAhead 4 (some .boolean) 3 := ⟨zw_1085, zw_1087, zw_46, zw_73, zw_1088, by decide +kernel⟩
theorem zM_gX11_123_0 : zx_fl zM_sd RX11 123 0 11 (fun _ f => .int (f 11)) := ⟨by decide, 10, _, _, _, _, rfl, by decide, zu_X11, zw_865, Or.inl rfl, fun _ _ _ => ⟨_, rfl, rfl⟩⟩
theorem zM_vX11_183 : zx_vw zM_sd RX11 183 yX11_dominance cX11_dominance 5 none 0 := ⟨zw_1018, zw_1020, zw_30, zw_73, zw_1021, by decide +kernel⟩
theorem zM_vX11_186 : zx_vw zM_sd RX11 186 yX11_choices cX11_choices 5 none 0 := ⟨zw_1038, zw_1040, zw_35, zw_73, zw_1041, by decide +kernel⟩
theorem zM_vX11_189 : zx_vw zM_sd RX11 189 yX11_numbers cX11_numbers 5 none 0 := ⟨zw_1046, zw_1048, zw_37, zw_73, zw_1049, by decide +kernel⟩
theorem zM_vX11_192 : zx_vw zM_sd RX11 192 yX11_names cX11_names 6 none 0 := ⟨zw_1054, zw_1056, zw_39, zw_73, zw_1057, by decide +kernel⟩
theorem zM_vX11_195 : zx_vw zM_sd RX11 195 yX11_classes cX11_classes 4 none 0 := ⟨zw_1066, zw_1068, zw_42, zw_73, zw_1069, by decide +kernel⟩
theorem zM_vX11_198 : zx_vw zM_sd RX11 198 yX11_redundant cX11_redundant 4 none 0 := ⟨zw_1081, zw_1083, zw_45, zw_73, zw_1084, by decide +kernel⟩
theorem zM_gX11_212_0 : zx_fl zM_sd RX11 212 0 36 (fun _ f => .int (f 36)) := ⟨by decide, 10, _, _, _, _, rfl, by decide, zu_X11, zw_890, Or.inl rfl, fun _ _ _ => ⟨_, rfl, rfl⟩⟩
theorem zM_gX11_101_0 : zx_fl zM_sd RX11 101 0 34 (fun _ f => .int (f 34)) := ⟨by decide, 10, _, _, _, _, rfl, by decide, zu_X11, zw_888, Or.inl rfl, fun _ _ _ => ⟨_, rfl, rfl⟩⟩
theorem zM_pX11_212_0 : zx_fp zM_sd RX11 212 0 36 .int := ⟨by decide, 10, _, _, _, tyX11, rfl, by decide, zu_X11, tyX11_ok, nmX11, zw_890, rfl, by decide +kernel, fun _ _ _ => ⟨_, rfl, Nat.le_of_ble_eq_true rfl, fun _ => rfl⟩⟩
theorem zM_gX11_209_0 : zx_fl zM_sd RX11 209 0 37 (fun _ f => .int (f 37)) := ⟨by decide, 10, _, _, _, _, rfl, by decide, zu_X11, zw_891, Or.inl rfl, fun _ _ _ => ⟨_, rfl, rfl⟩⟩
theorem zM_pX11_209_0 : zx_fp zM_sd RX11 209 0 37 .int := ⟨by decide, 10, _, _, _, tyX11, rfl, by decide, zu_X11, tyX11_ok, nmX11, zw_891, rfl, by decide +kernel, fun _ _ _ => ⟨_, rfl, Nat.le_of_ble_eq_true rfl, fun _ => rfl⟩⟩
theorem zM_gX11_105_0 : zx_fl zM_sd RX11 105 0 39 (fun ad _ => .ref (ad 31)) := ⟨by decide, 10, _, _, _, _, rfl, by decide, zu_X11, zw_893, Or.inl rfl, fun _ _ _ => ⟨_, rfl, rfl⟩⟩
theorem zM_a31 : zx_ai zM_sd 31 60 := ⟨by decide, fun _ _ _ => rfl⟩
theorem zM_vX11_205 : zx_vw zM_sd RX11 205 yX11_predecessorAt cX11_predecessorAt 5 (some .int) 2 := ⟨zw_1093, zw_1095, zw_48, zw_73, zw_1096, by decide +kernel⟩
theorem zM_vX11_201 : zx_vw zM_sd RX11 201 yX11_leader cX11_leader 5 (some .int) 3 := ⟨zw_1101, zw_1103, zw_50, zw_73, zw_1104, by decide +kernel⟩
theorem zM_gX11_111_0 : zx_fl zM_sd RX11 111 0 41 (fun ad _ => .ref (ad 33)) := ⟨by decide, 10, _, _, _, _, rfl, by decide, zu_X11, zw_895, Or.inl rfl, fun _ _ _ => ⟨_, rfl, rfl⟩⟩
theorem zM_a33 : zx_ai zM_sd 33 270 := ⟨by decide, fun _ _ _ => rfl⟩
theorem zM_sX11_251 : zx_sw zM_sd RX11 251 yX11_work cX11_work 3 (some .int) 3 := ⟨zw_1121, zw_1122, zw_73, zw_1123, by decide +kernel⟩
theorem zM_vX11_245 : zx_vw zM_sd RX11 245 yX11_ledOperand cX11_ledOperand 6 (some .int) 2 := ⟨zw_1097, zw_1099, zw_49, zw_73, zw_1100, by decide +kernel⟩
theorem zM_gX11_117_0 : zx_fl zM_sd RX11 117 0 43 (fun ad _ => .ref (ad 35)) := ⟨by decide, 10, _, _, _, _, rfl, by decide, zu_X11, zw_897, Or.inl rfl, fun _ _ _ => ⟨_, rfl, rfl⟩⟩
theorem zM_a35 : zx_ai zM_sd 35 4 := ⟨by decide, fun _ _ _ => rfl⟩
theorem zM_vX11_254 : zx_vw zM_sd RX11 254 yX11_readAt cX11_readAt 5 (some .int) 3 := ⟨zw_1124, zw_1126, zw_55, zw_73, zw_1127, by decide +kernel⟩
theorem zM_vX11_248 : zx_vw zM_sd RX11 248 yX11_emit cX11_emit 2 none 1 := ⟨zw_1117, zw_1119, zw_54, zw_73, zw_1120, by decide +kernel⟩
theorem zM_gX11_108_0 : zx_fl zM_sd RX11 108 0 40 (fun ad _ => .ref (ad 32)) := ⟨by decide, 10, _, _, _, _, rfl, by decide, zu_X11, zw_894, Or.inl rfl, fun _ _ _ => ⟨_, rfl, rfl⟩⟩
theorem zM_a32 : zx_ai zM_sd 32 10 := ⟨by decide, fun _ _ _ => rfl⟩
theorem zM_vX11_238 : zx_vw zM_sd RX11 238 yX11_yOf cX11_yOf 2 (some .int) 1 := ⟨zw_1128, zw_1130, zw_56, zw_73, zw_1131, by decide +kernel⟩
theorem zM_gX11_114_0 : zx_fl zM_sd RX11 114 0 42 (fun ad _ => .ref (ad 34)) := ⟨by decide, 10, _, _, _, _, rfl, by decide, zu_X11, zw_896, Or.inl rfl, fun _ _ _ => ⟨_, rfl, rfl⟩⟩
theorem zM_a34 : zx_ai zM_sd 34 270 := ⟨by decide, fun _ _ _ => rfl⟩
theorem zM_vX11_228 : zx_vw zM_sd RX11 228 yX11_costs cX11_costs 5 (some .boolean) 3 := ⟨zw_1105, zw_1107, zw_51, zw_73, zw_1108, by decide +kernel⟩
theorem zM_vX11_231 : zx_vw zM_sd RX11 231 yX11_takes cX11_takes 1 (some .boolean) 0 := ⟨zw_1109, zw_1111, zw_52, zw_73, zw_1112, by decide +kernel⟩
theorem zM_vX11_235 : zx_vw zM_sd RX11 235 yX11_acts cX11_acts 8 none 3 := ⟨zw_1113, zw_1115, zw_53, zw_73, zw_1116, by decide +kernel⟩
theorem zM_vX11_241 : zx_vw zM_sd RX11 241 yX11_reads cX11_reads 4 (some .int) 2 := ⟨zw_1132, zw_1134, zw_57, zw_73, zw_1135, by decide +kernel⟩
theorem zM_pX11_221_0 : zx_fp zM_sd RX11 221 0 38 .int := ⟨by decide, 10, _, _, _, tyX11, rfl, by decide, zu_X11, tyX11_ok, nmX11, zw_892, rfl, by decide +kernel, fun _ _ _ => ⟨_, rfl, Nat.le_of_ble_eq_true rfl, fun _ => rfl⟩⟩
theorem zM_vX11_224 : zx_vw zM_sd RX11 224 yX11_chooses cX11_chooses 7 none 3 := ⟨zw_1089, zw_1091, zw_47, zw_73, zw_1092, by decide +kernel⟩
theorem zM_vX11_215 : zx_vw zM_sd RX11 215 yX11_make cX11_make 1 none 0 := ⟨zw_1014, zw_1016, zw_29, zw_73, zw_1017, by decide +kernel⟩
theorem zM_pX11_218_0 : zx_fp zM_sd RX11 218 0 35 .int := ⟨by decide, 10, _, _, _, tyX11, rfl, by decide, zu_X11, tyX11_ok, nmX11, zw_889, rfl, by decide +kernel, fun _ _ _ => ⟨_, rfl, Nat.le_of_ble_eq_true rfl, fun _ => rfl⟩⟩
theorem zM_pX11_101_0 : zx_fp zM_sd RX11 101 0 34 .int := ⟨by decide, 10, _, _, _, tyX11, rfl, by decide, zu_X11, tyX11_ok, nmX11, zw_888, rfl, by decide +kernel, fun _ _ _ => ⟨_, rfl, Nat.le_of_ble_eq_true rfl, fun _ => rfl⟩⟩
theorem zM_gX11_218_0 : zx_fl zM_sd RX11 218 0 35 (fun _ f => .int (f 35)) := ⟨by decide, 10, _, _, _, _, rfl, by decide, zu_X11, zw_889, Or.inl rfl, fun _ _ _ => ⟨_, rfl, rfl⟩⟩
theorem zM_gX11_221_0 : zx_fl zM_sd RX11 221 0 38 (fun _ f => .int (f 38)) := ⟨by decide, 10, _, _, _, _, rfl, by decide, zu_X11, zw_892, Or.inl rfl, fun _ _ _ => ⟨_, rfl, rfl⟩⟩
theorem zM_vX11_257 : zx_vw zM_sd RX11 257 yX11_areReached cX11_areReached 3 (some .boolean) 2 := ⟨zw_1160, zw_1162, zw_58, zw_73, zw_1163, by decide +kernel⟩
theorem zM_vX11_260 : zx_vw zM_sd RX11 260 yX11_isValue cX11_isValue 2 (some .boolean) 1 := ⟨zw_1172, zw_1174, zw_59, zw_73, zw_1175, by decide +kernel⟩
theorem zM_vX11_263 : zx_vw zM_sd RX11 263 yX11_isOperand cX11_isOperand 3 (some .boolean) 2 := ⟨zw_1180, zw_1182, zw_60, zw_73, zw_1183, by decide +kernel⟩
