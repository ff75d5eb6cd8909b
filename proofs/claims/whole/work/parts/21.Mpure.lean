def zM_ValueBenchModel_block (s : zx_S) : Option (Int32 × zx_S) :=
  if (s 0 0) = (16 : Int32) then
    some ((-1 : Int32), s)
  else
    zx_ck (s 0 0) 16 <|
    zx_ls (zx_su s 5 ((s 0 0)).toNatClampNeg (0 : Int32)) fun s1 =>
    zx_ck (s1 0 0) 16 <|
    zx_ls (zx_su s1 6 ((s1 0 0)).toNatClampNeg (0 : Int32)) fun s2 =>
    zx_ck (s2 0 0) 16 <|
    zx_ls (zx_su s2 7 ((s2 0 0)).toNatClampNeg (0 : Int32)) fun s3 =>
    zx_lt ((s3 0 0) + (1 : Int32)) fun x4 =>
    zx_ls (zx_su s3 0 0 x4) fun s5 =>
    zx_ls (zx_su s5 0 11 (0 : Int32)) fun s6 =>
    some (((s6 0 0) - (1 : Int32)), s6)
def zM_ValueBenchModel_isBlock (p1 : Int32) (s : zx_S) : Option Int32 :=
  if p1 < (0 : Int32) then
    some (0 : Int32)
  else
    if (s 0 0) ≤ p1 then
      some (0 : Int32)
    else
      some (1 : Int32)
def zM_ValueBenchModel_isVariable (p0 : Int32) (s : zx_S) : Option Int32 :=
  if p0 < (0 : Int32) then
    some (0 : Int32)
  else
    if (10 : Int32) ≤ p0 then
      some (0 : Int32)
    else
      some (1 : Int32)
def zM_ValueBenchModel_put (p1 p2 p3 p4 p5 : Int32) (s : zx_S) : Option (Int32 × zx_S) :=
  zx_b1 (zM_ValueBenchModel_isBlock p1 s) fun r1 =>
  if r1 = (0 : Int32) then
    some ((-1 : Int32), s)
  else
    if p2 < (0 : Int32) then
      some ((-1 : Int32), s)
    else
      if (14 : Int32) < p2 then
        some ((-1 : Int32), s)
      else
        if (s 0 1) = (100 : Int32) then
          some ((-1 : Int32), s)
        else
          zx_b1 (zM_ValueBenchModel_isVariable p3 s) fun r2 =>
          if r2 = (0 : Int32) then
            some ((-1 : Int32), s)
          else
            if p2 = (1 : Int32) then
              if p4 < (0 : Int32) then
                some ((-1 : Int32), s)
              else
                if (3 : Int32) < p4 then
                  some ((-1 : Int32), s)
                else
                  if p2 = (2 : Int32) then
                    zx_b1 (zM_ValueBenchModel_isVariable p4 s) fun r3 =>
                    if r3 = (0 : Int32) then
                      some ((-1 : Int32), s)
                    else
                      if p2 < (3 : Int32) then
                        zx_ck p1 16 <|
                        zx_lt (((100 : Int32) * p1) + (s 5 (p1).toNatClampNeg)) fun v6_26 =>
                        zx_ck v6_26 1600 <|
                        zx_ls (zx_su s 1 (v6_26).toNatClampNeg p2) fun s27 =>
                        zx_ck v6_26 1600 <|
                        zx_ls (zx_su s27 2 (v6_26).toNatClampNeg p3) fun s28 =>
                        zx_ck v6_26 1600 <|
                        zx_ls (zx_su s28 3 (v6_26).toNatClampNeg p4) fun s29 =>
                        zx_ck v6_26 1600 <|
                        zx_ls (zx_su s29 4 (v6_26).toNatClampNeg p5) fun s30 =>
                        zx_ck p1 16 <|
                        zx_lt ((s30 5 (p1).toNatClampNeg) + (1 : Int32)) fun x31 =>
                        zx_ck p1 16 <|
                        zx_ls (zx_su s30 5 (p1).toNatClampNeg x31) fun s32 =>
                        zx_lt ((s32 0 1) + (1 : Int32)) fun x33 =>
                        zx_ls (zx_su s32 0 1 x33) fun s34 =>
                        zx_ls (zx_su s34 0 11 (0 : Int32)) fun s35 =>
                        some ((s35 0 1), s35)
                      else
                        if (14 : Int32) ≤ p2 then
                          zx_ck p1 16 <|
                          zx_lt (((100 : Int32) * p1) + (s 5 (p1).toNatClampNeg)) fun v6_16 =>
                          zx_ck v6_16 1600 <|
                          zx_ls (zx_su s 1 (v6_16).toNatClampNeg p2) fun s17 =>
                          zx_ck v6_16 1600 <|
                          zx_ls (zx_su s17 2 (v6_16).toNatClampNeg p3) fun s18 =>
                          zx_ck v6_16 1600 <|
                          zx_ls (zx_su s18 3 (v6_16).toNatClampNeg p4) fun s19 =>
                          zx_ck v6_16 1600 <|
                          zx_ls (zx_su s19 4 (v6_16).toNatClampNeg p5) fun s20 =>
                          zx_ck p1 16 <|
                          zx_lt ((s20 5 (p1).toNatClampNeg) + (1 : Int32)) fun x21 =>
                          zx_ck p1 16 <|
                          zx_ls (zx_su s20 5 (p1).toNatClampNeg x21) fun s22 =>
                          zx_lt ((s22 0 1) + (1 : Int32)) fun x23 =>
                          zx_ls (zx_su s22 0 1 x23) fun s24 =>
                          zx_ls (zx_su s24 0 11 (0 : Int32)) fun s25 =>
                          some ((s25 0 1), s25)
                        else
                          zx_b1 (zM_ValueBenchModel_isVariable p4 s) fun r4 =>
                          if r4 = (0 : Int32) then
                            some ((-1 : Int32), s)
                          else
                            zx_b1 (zM_ValueBenchModel_isVariable p5 s) fun r5 =>
                            if r5 = (0 : Int32) then
                              some ((-1 : Int32), s)
                            else
                              zx_ck p1 16 <|
                              zx_lt (((100 : Int32) * p1) + (s 5 (p1).toNatClampNeg)) fun v6_6 =>
                              zx_ck v6_6 1600 <|
                              zx_ls (zx_su s 1 (v6_6).toNatClampNeg p2) fun s7 =>
                              zx_ck v6_6 1600 <|
                              zx_ls (zx_su s7 2 (v6_6).toNatClampNeg p3) fun s8 =>
                              zx_ck v6_6 1600 <|
                              zx_ls (zx_su s8 3 (v6_6).toNatClampNeg p4) fun s9 =>
                              zx_ck v6_6 1600 <|
                              zx_ls (zx_su s9 4 (v6_6).toNatClampNeg p5) fun s10 =>
                              zx_ck p1 16 <|
                              zx_lt ((s10 5 (p1).toNatClampNeg) + (1 : Int32)) fun x11 =>
                              zx_ck p1 16 <|
                              zx_ls (zx_su s10 5 (p1).toNatClampNeg x11) fun s12 =>
                              zx_lt ((s12 0 1) + (1 : Int32)) fun x13 =>
                              zx_ls (zx_su s12 0 1 x13) fun s14 =>
                              zx_ls (zx_su s14 0 11 (0 : Int32)) fun s15 =>
                              some ((s15 0 1), s15)
                  else
                    if p2 < (3 : Int32) then
                      zx_ck p1 16 <|
                      zx_lt (((100 : Int32) * p1) + (s 5 (p1).toNatClampNeg)) fun v6_58 =>
                      zx_ck v6_58 1600 <|
                      zx_ls (zx_su s 1 (v6_58).toNatClampNeg p2) fun s59 =>
                      zx_ck v6_58 1600 <|
                      zx_ls (zx_su s59 2 (v6_58).toNatClampNeg p3) fun s60 =>
                      zx_ck v6_58 1600 <|
                      zx_ls (zx_su s60 3 (v6_58).toNatClampNeg p4) fun s61 =>
                      zx_ck v6_58 1600 <|
                      zx_ls (zx_su s61 4 (v6_58).toNatClampNeg p5) fun s62 =>
                      zx_ck p1 16 <|
                      zx_lt ((s62 5 (p1).toNatClampNeg) + (1 : Int32)) fun x63 =>
                      zx_ck p1 16 <|
                      zx_ls (zx_su s62 5 (p1).toNatClampNeg x63) fun s64 =>
                      zx_lt ((s64 0 1) + (1 : Int32)) fun x65 =>
                      zx_ls (zx_su s64 0 1 x65) fun s66 =>
                      zx_ls (zx_su s66 0 11 (0 : Int32)) fun s67 =>
                      some ((s67 0 1), s67)
                    else
                      if (14 : Int32) ≤ p2 then
                        zx_ck p1 16 <|
                        zx_lt (((100 : Int32) * p1) + (s 5 (p1).toNatClampNeg)) fun v6_48 =>
                        zx_ck v6_48 1600 <|
                        zx_ls (zx_su s 1 (v6_48).toNatClampNeg p2) fun s49 =>
                        zx_ck v6_48 1600 <|
                        zx_ls (zx_su s49 2 (v6_48).toNatClampNeg p3) fun s50 =>
                        zx_ck v6_48 1600 <|
                        zx_ls (zx_su s50 3 (v6_48).toNatClampNeg p4) fun s51 =>
                        zx_ck v6_48 1600 <|
                        zx_ls (zx_su s51 4 (v6_48).toNatClampNeg p5) fun s52 =>
                        zx_ck p1 16 <|
                        zx_lt ((s52 5 (p1).toNatClampNeg) + (1 : Int32)) fun x53 =>
                        zx_ck p1 16 <|
                        zx_ls (zx_su s52 5 (p1).toNatClampNeg x53) fun s54 =>
                        zx_lt ((s54 0 1) + (1 : Int32)) fun x55 =>
                        zx_ls (zx_su s54 0 1 x55) fun s56 =>
                        zx_ls (zx_su s56 0 11 (0 : Int32)) fun s57 =>
                        some ((s57 0 1), s57)
                      else
                        zx_b1 (zM_ValueBenchModel_isVariable p4 s) fun r36 =>
                        if r36 = (0 : Int32) then
                          some ((-1 : Int32), s)
                        else
                          zx_b1 (zM_ValueBenchModel_isVariable p5 s) fun r37 =>
                          if r37 = (0 : Int32) then
                            some ((-1 : Int32), s)
                          else
                            zx_ck p1 16 <|
                            zx_lt (((100 : Int32) * p1) + (s 5 (p1).toNatClampNeg)) fun v6_38 =>
                            zx_ck v6_38 1600 <|
                            zx_ls (zx_su s 1 (v6_38).toNatClampNeg p2) fun s39 =>
                            zx_ck v6_38 1600 <|
                            zx_ls (zx_su s39 2 (v6_38).toNatClampNeg p3) fun s40 =>
                            zx_ck v6_38 1600 <|
                            zx_ls (zx_su s40 3 (v6_38).toNatClampNeg p4) fun s41 =>
                            zx_ck v6_38 1600 <|
                            zx_ls (zx_su s41 4 (v6_38).toNatClampNeg p5) fun s42 =>
                            zx_ck p1 16 <|
                            zx_lt ((s42 5 (p1).toNatClampNeg) + (1 : Int32)) fun x43 =>
                            zx_ck p1 16 <|
                            zx_ls (zx_su s42 5 (p1).toNatClampNeg x43) fun s44 =>
                            zx_lt ((s44 0 1) + (1 : Int32)) fun x45 =>
                            zx_ls (zx_su s44 0 1 x45) fun s46 =>
                            zx_ls (zx_su s46 0 11 (0 : Int32)) fun s47 =>
                            some ((s47 0 1), s47)
            else
              if p2 = (2 : Int32) then
                zx_b1 (zM_ValueBenchModel_isVariable p4 s) fun r68 =>
                if r68 = (0 : Int32) then
                  some ((-1 : Int32), s)
                else
                  if p2 < (3 : Int32) then
                    zx_ck p1 16 <|
                    zx_lt (((100 : Int32) * p1) + (s 5 (p1).toNatClampNeg)) fun v6_91 =>
                    zx_ck v6_91 1600 <|
                    zx_ls (zx_su s 1 (v6_91).toNatClampNeg p2) fun s92 =>
                    zx_ck v6_91 1600 <|
                    zx_ls (zx_su s92 2 (v6_91).toNatClampNeg p3) fun s93 =>
                    zx_ck v6_91 1600 <|
                    zx_ls (zx_su s93 3 (v6_91).toNatClampNeg p4) fun s94 =>
                    zx_ck v6_91 1600 <|
                    zx_ls (zx_su s94 4 (v6_91).toNatClampNeg p5) fun s95 =>
                    zx_ck p1 16 <|
                    zx_lt ((s95 5 (p1).toNatClampNeg) + (1 : Int32)) fun x96 =>
                    zx_ck p1 16 <|
                    zx_ls (zx_su s95 5 (p1).toNatClampNeg x96) fun s97 =>
                    zx_lt ((s97 0 1) + (1 : Int32)) fun x98 =>
                    zx_ls (zx_su s97 0 1 x98) fun s99 =>
                    zx_ls (zx_su s99 0 11 (0 : Int32)) fun s100 =>
                    some ((s100 0 1), s100)
                  else
                    if (14 : Int32) ≤ p2 then
                      zx_ck p1 16 <|
                      zx_lt (((100 : Int32) * p1) + (s 5 (p1).toNatClampNeg)) fun v6_81 =>
                      zx_ck v6_81 1600 <|
                      zx_ls (zx_su s 1 (v6_81).toNatClampNeg p2) fun s82 =>
                      zx_ck v6_81 1600 <|
                      zx_ls (zx_su s82 2 (v6_81).toNatClampNeg p3) fun s83 =>
                      zx_ck v6_81 1600 <|
                      zx_ls (zx_su s83 3 (v6_81).toNatClampNeg p4) fun s84 =>
                      zx_ck v6_81 1600 <|
                      zx_ls (zx_su s84 4 (v6_81).toNatClampNeg p5) fun s85 =>
                      zx_ck p1 16 <|
                      zx_lt ((s85 5 (p1).toNatClampNeg) + (1 : Int32)) fun x86 =>
                      zx_ck p1 16 <|
                      zx_ls (zx_su s85 5 (p1).toNatClampNeg x86) fun s87 =>
                      zx_lt ((s87 0 1) + (1 : Int32)) fun x88 =>
                      zx_ls (zx_su s87 0 1 x88) fun s89 =>
                      zx_ls (zx_su s89 0 11 (0 : Int32)) fun s90 =>
                      some ((s90 0 1), s90)
                    else
                      zx_b1 (zM_ValueBenchModel_isVariable p4 s) fun r69 =>
                      if r69 = (0 : Int32) then
                        some ((-1 : Int32), s)
                      else
                        zx_b1 (zM_ValueBenchModel_isVariable p5 s) fun r70 =>
                        if r70 = (0 : Int32) then
                          some ((-1 : Int32), s)
                        else
                          zx_ck p1 16 <|
                          zx_lt (((100 : Int32) * p1) + (s 5 (p1).toNatClampNeg)) fun v6_71 =>
                          zx_ck v6_71 1600 <|
                          zx_ls (zx_su s 1 (v6_71).toNatClampNeg p2) fun s72 =>
                          zx_ck v6_71 1600 <|
                          zx_ls (zx_su s72 2 (v6_71).toNatClampNeg p3) fun s73 =>
                          zx_ck v6_71 1600 <|
                          zx_ls (zx_su s73 3 (v6_71).toNatClampNeg p4) fun s74 =>
                          zx_ck v6_71 1600 <|
                          zx_ls (zx_su s74 4 (v6_71).toNatClampNeg p5) fun s75 =>
                          zx_ck p1 16 <|
                          zx_lt ((s75 5 (p1).toNatClampNeg) + (1 : Int32)) fun x76 =>
                          zx_ck p1 16 <|
                          zx_ls (zx_su s75 5 (p1).toNatClampNeg x76) fun s77 =>
                          zx_lt ((s77 0 1) + (1 : Int32)) fun x78 =>
                          zx_ls (zx_su s77 0 1 x78) fun s79 =>
                          zx_ls (zx_su s79 0 11 (0 : Int32)) fun s80 =>
                          some ((s80 0 1), s80)
              else
                if p2 < (3 : Int32) then
                  zx_ck p1 16 <|
                  zx_lt (((100 : Int32) * p1) + (s 5 (p1).toNatClampNeg)) fun v6_123 =>
                  zx_ck v6_123 1600 <|
                  zx_ls (zx_su s 1 (v6_123).toNatClampNeg p2) fun s124 =>
                  zx_ck v6_123 1600 <|
                  zx_ls (zx_su s124 2 (v6_123).toNatClampNeg p3) fun s125 =>
                  zx_ck v6_123 1600 <|
                  zx_ls (zx_su s125 3 (v6_123).toNatClampNeg p4) fun s126 =>
                  zx_ck v6_123 1600 <|
                  zx_ls (zx_su s126 4 (v6_123).toNatClampNeg p5) fun s127 =>
                  zx_ck p1 16 <|
                  zx_lt ((s127 5 (p1).toNatClampNeg) + (1 : Int32)) fun x128 =>
                  zx_ck p1 16 <|
                  zx_ls (zx_su s127 5 (p1).toNatClampNeg x128) fun s129 =>
                  zx_lt ((s129 0 1) + (1 : Int32)) fun x130 =>
                  zx_ls (zx_su s129 0 1 x130) fun s131 =>
                  zx_ls (zx_su s131 0 11 (0 : Int32)) fun s132 =>
                  some ((s132 0 1), s132)
                else
                  if (14 : Int32) ≤ p2 then
                    zx_ck p1 16 <|
                    zx_lt (((100 : Int32) * p1) + (s 5 (p1).toNatClampNeg)) fun v6_113 =>
                    zx_ck v6_113 1600 <|
                    zx_ls (zx_su s 1 (v6_113).toNatClampNeg p2) fun s114 =>
                    zx_ck v6_113 1600 <|
                    zx_ls (zx_su s114 2 (v6_113).toNatClampNeg p3) fun s115 =>
                    zx_ck v6_113 1600 <|
                    zx_ls (zx_su s115 3 (v6_113).toNatClampNeg p4) fun s116 =>
                    zx_ck v6_113 1600 <|
                    zx_ls (zx_su s116 4 (v6_113).toNatClampNeg p5) fun s117 =>
                    zx_ck p1 16 <|
                    zx_lt ((s117 5 (p1).toNatClampNeg) + (1 : Int32)) fun x118 =>
                    zx_ck p1 16 <|
                    zx_ls (zx_su s117 5 (p1).toNatClampNeg x118) fun s119 =>
                    zx_lt ((s119 0 1) + (1 : Int32)) fun x120 =>
                    zx_ls (zx_su s119 0 1 x120) fun s121 =>
                    zx_ls (zx_su s121 0 11 (0 : Int32)) fun s122 =>
                    some ((s122 0 1), s122)
                  else
                    zx_b1 (zM_ValueBenchModel_isVariable p4 s) fun r101 =>
                    if r101 = (0 : Int32) then
                      some ((-1 : Int32), s)
                    else
                      zx_b1 (zM_ValueBenchModel_isVariable p5 s) fun r102 =>
                      if r102 = (0 : Int32) then
                        some ((-1 : Int32), s)
                      else
                        zx_ck p1 16 <|
                        zx_lt (((100 : Int32) * p1) + (s 5 (p1).toNatClampNeg)) fun v6_103 =>
                        zx_ck v6_103 1600 <|
                        zx_ls (zx_su s 1 (v6_103).toNatClampNeg p2) fun s104 =>
                        zx_ck v6_103 1600 <|
                        zx_ls (zx_su s104 2 (v6_103).toNatClampNeg p3) fun s105 =>
                        zx_ck v6_103 1600 <|
                        zx_ls (zx_su s105 3 (v6_103).toNatClampNeg p4) fun s106 =>
                        zx_ck v6_103 1600 <|
                        zx_ls (zx_su s106 4 (v6_103).toNatClampNeg p5) fun s107 =>
                        zx_ck p1 16 <|
                        zx_lt ((s107 5 (p1).toNatClampNeg) + (1 : Int32)) fun x108 =>
                        zx_ck p1 16 <|
                        zx_ls (zx_su s107 5 (p1).toNatClampNeg x108) fun s109 =>
                        zx_lt ((s109 0 1) + (1 : Int32)) fun x110 =>
                        zx_ls (zx_su s109 0 1 x110) fun s111 =>
                        zx_ls (zx_su s111 0 11 (0 : Int32)) fun s112 =>
                        some ((s112 0 1), s112)
def zM_ValueBenchModel_ends (p1 p2 p3 p4 p5 : Int32) (s : zx_S) : Option (Int32 × zx_S) :=
  zx_b1 (zM_ValueBenchModel_isBlock p1 s) fun r1 =>
  if r1 = (0 : Int32) then
    some ((0 : Int32), s)
  else
    if p2 < (0 : Int32) then
      some ((0 : Int32), s)
    else
      if (2 : Int32) < p2 then
        some ((0 : Int32), s)
      else
        if p2 = (1 : Int32) then
          if p2 ≤ (0 : Int32) then
            if p2 = (2 : Int32) then
              if p5 < (0 : Int32) then
                some ((0 : Int32), s)
              else
                if p5 < (16 : Int32) then
                  zx_ck p1 16 <|
                  zx_ls (zx_su s 6 (p1).toNatClampNeg p2) fun s33 =>
                  zx_ck p1 16 <|
                  zx_ls (zx_su s33 7 (p1).toNatClampNeg p3) fun s34 =>
                  zx_ck p1 16 <|
                  zx_ls (zx_su s34 8 (p1).toNatClampNeg p4) fun s35 =>
                  zx_ck p1 16 <|
                  zx_ls (zx_su s35 9 (p1).toNatClampNeg p5) fun s36 =>
                  zx_ls (zx_su s36 0 11 (0 : Int32)) fun s37 =>
                  some ((1 : Int32), s37)
                else
                  some ((0 : Int32), s)
            else
              zx_ck p1 16 <|
              zx_ls (zx_su s 6 (p1).toNatClampNeg p2) fun s38 =>
              zx_ck p1 16 <|
              zx_ls (zx_su s38 7 (p1).toNatClampNeg p3) fun s39 =>
              zx_ck p1 16 <|
              zx_ls (zx_su s39 8 (p1).toNatClampNeg p4) fun s40 =>
              zx_ck p1 16 <|
              zx_ls (zx_su s40 9 (p1).toNatClampNeg p5) fun s41 =>
              zx_ls (zx_su s41 0 11 (0 : Int32)) fun s42 =>
              some ((1 : Int32), s42)
          else
            if p4 < (0 : Int32) then
              some ((0 : Int32), s)
            else
              if (16 : Int32) ≤ p4 then
                some ((0 : Int32), s)
              else
                if p2 = (2 : Int32) then
                  if p5 < (0 : Int32) then
                    some ((0 : Int32), s)
                  else
                    if p5 < (16 : Int32) then
                      zx_ck p1 16 <|
                      zx_ls (zx_su s 6 (p1).toNatClampNeg p2) fun s23 =>
                      zx_ck p1 16 <|
                      zx_ls (zx_su s23 7 (p1).toNatClampNeg p3) fun s24 =>
                      zx_ck p1 16 <|
                      zx_ls (zx_su s24 8 (p1).toNatClampNeg p4) fun s25 =>
                      zx_ck p1 16 <|
                      zx_ls (zx_su s25 9 (p1).toNatClampNeg p5) fun s26 =>
                      zx_ls (zx_su s26 0 11 (0 : Int32)) fun s27 =>
                      some ((1 : Int32), s27)
                    else
                      some ((0 : Int32), s)
                else
                  zx_ck p1 16 <|
                  zx_ls (zx_su s 6 (p1).toNatClampNeg p2) fun s28 =>
                  zx_ck p1 16 <|
                  zx_ls (zx_su s28 7 (p1).toNatClampNeg p3) fun s29 =>
                  zx_ck p1 16 <|
                  zx_ls (zx_su s29 8 (p1).toNatClampNeg p4) fun s30 =>
                  zx_ck p1 16 <|
                  zx_ls (zx_su s30 9 (p1).toNatClampNeg p5) fun s31 =>
                  zx_ls (zx_su s31 0 11 (0 : Int32)) fun s32 =>
                  some ((1 : Int32), s32)
        else
          zx_b1 (zM_ValueBenchModel_isVariable p3 s) fun r2 =>
          if r2 = (0 : Int32) then
            some ((0 : Int32), s)
          else
            if p2 ≤ (0 : Int32) then
              if p2 = (2 : Int32) then
                if p5 < (0 : Int32) then
                  some ((0 : Int32), s)
                else
                  if p5 < (16 : Int32) then
                    zx_ck p1 16 <|
                    zx_ls (zx_su s 6 (p1).toNatClampNeg p2) fun s13 =>
                    zx_ck p1 16 <|
                    zx_ls (zx_su s13 7 (p1).toNatClampNeg p3) fun s14 =>
                    zx_ck p1 16 <|
                    zx_ls (zx_su s14 8 (p1).toNatClampNeg p4) fun s15 =>
                    zx_ck p1 16 <|
                    zx_ls (zx_su s15 9 (p1).toNatClampNeg p5) fun s16 =>
                    zx_ls (zx_su s16 0 11 (0 : Int32)) fun s17 =>
                    some ((1 : Int32), s17)
                  else
                    some ((0 : Int32), s)
              else
                zx_ck p1 16 <|
                zx_ls (zx_su s 6 (p1).toNatClampNeg p2) fun s18 =>
                zx_ck p1 16 <|
                zx_ls (zx_su s18 7 (p1).toNatClampNeg p3) fun s19 =>
                zx_ck p1 16 <|
                zx_ls (zx_su s19 8 (p1).toNatClampNeg p4) fun s20 =>
                zx_ck p1 16 <|
                zx_ls (zx_su s20 9 (p1).toNatClampNeg p5) fun s21 =>
                zx_ls (zx_su s21 0 11 (0 : Int32)) fun s22 =>
                some ((1 : Int32), s22)
            else
              if p4 < (0 : Int32) then
                some ((0 : Int32), s)
              else
                if (16 : Int32) ≤ p4 then
                  some ((0 : Int32), s)
                else
                  if p2 = (2 : Int32) then
                    if p5 < (0 : Int32) then
                      some ((0 : Int32), s)
                    else
                      if p5 < (16 : Int32) then
                        zx_ck p1 16 <|
                        zx_ls (zx_su s 6 (p1).toNatClampNeg p2) fun s3 =>
                        zx_ck p1 16 <|
                        zx_ls (zx_su s3 7 (p1).toNatClampNeg p3) fun s4 =>
                        zx_ck p1 16 <|
                        zx_ls (zx_su s4 8 (p1).toNatClampNeg p4) fun s5 =>
                        zx_ck p1 16 <|
                        zx_ls (zx_su s5 9 (p1).toNatClampNeg p5) fun s6 =>
                        zx_ls (zx_su s6 0 11 (0 : Int32)) fun s7 =>
                        some ((1 : Int32), s7)
                      else
                        some ((0 : Int32), s)
                  else
                    zx_ck p1 16 <|
                    zx_ls (zx_su s 6 (p1).toNatClampNeg p2) fun s8 =>
                    zx_ck p1 16 <|
                    zx_ls (zx_su s8 7 (p1).toNatClampNeg p3) fun s9 =>
                    zx_ck p1 16 <|
                    zx_ls (zx_su s9 8 (p1).toNatClampNeg p4) fun s10 =>
                    zx_ck p1 16 <|
                    zx_ls (zx_su s10 9 (p1).toNatClampNeg p5) fun s11 =>
                    zx_ls (zx_su s11 0 11 (0 : Int32)) fun s12 =>
                    some ((1 : Int32), s12)
def zM_ValueBenchModel_clear (s : zx_S) : Option (Int32 × zx_S) :=
  zx_lt (s 0 0) fun v1_1 =>
  zx_ls (zx_su s 0 0 (0 : Int32)) fun s2 =>
  zx_ls (zx_su s2 0 1 (0 : Int32)) fun s3 =>
  zx_ls (zx_su s3 0 11 (0 : Int32)) fun s4 =>
  some (v1_1, s4)
def zM_ValueBenchModel_howOf (p1 : Int32) (s : zx_S) : Option Int32 :=
  zx_ck p1 16 <|
  if (s 6 (p1).toNatClampNeg) = (1 : Int32) then
    zx_ck p1 16 <|
    if (s 0 0) ≤ (s 8 (p1).toNatClampNeg) then
      some (0 : Int32)
    else
      zx_ck p1 16 <|
      if (s 6 (p1).toNatClampNeg) = (2 : Int32) then
        zx_ck p1 16 <|
        if (s 0 0) ≤ (s 8 (p1).toNatClampNeg) then
          some (0 : Int32)
        else
          zx_ck p1 16 <|
          if (s 9 (p1).toNatClampNeg) < (s 0 0) then
            zx_ck p1 16 <|
            some (s 6 (p1).toNatClampNeg)
          else
            some (0 : Int32)
      else
        zx_ck p1 16 <|
        some (s 6 (p1).toNatClampNeg)
  else
    zx_ck p1 16 <|
    if (s 6 (p1).toNatClampNeg) = (2 : Int32) then
      zx_ck p1 16 <|
      if (s 0 0) ≤ (s 8 (p1).toNatClampNeg) then
        some (0 : Int32)
      else
        zx_ck p1 16 <|
        if (s 9 (p1).toNatClampNeg) < (s 0 0) then
          zx_ck p1 16 <|
          some (s 6 (p1).toNatClampNeg)
        else
          some (0 : Int32)
    else
      zx_ck p1 16 <|
      some (s 6 (p1).toNatClampNeg)
def zM_ValueBenchModel_leads (p1 p2 : Int32) (s : zx_S) : Option Int32 :=
  zx_b1 (zM_ValueBenchModel_howOf p1 s) fun r1 =>
  if r1 ≤ (0 : Int32) then
    if r1 = (2 : Int32) then
      zx_ck p1 16 <|
      if (s 9 (p1).toNatClampNeg) = p2 then
        some (1 : Int32)
      else
        some (0 : Int32)
    else
      some (0 : Int32)
  else
    zx_ck p1 16 <|
    if (s 8 (p1).toNatClampNeg) = p2 then
      some (1 : Int32)
    else
      if r1 = (2 : Int32) then
        zx_ck p1 16 <|
        if (s 9 (p1).toNatClampNeg) = p2 then
          some (1 : Int32)
        else
          some (0 : Int32)
      else
        some (0 : Int32)
def zM_ValueBenchModel_meet_L2 (v1 : Int32) (k35 : zx_S → Option zx_S) : Nat → Int32 → zx_S → Option zx_S
  | 0, _, _ => none
  | n + 1, v2, s =>
    if (s 0 0) ≤ v2 then
      k35 s
    else
      if v2 = (0 : Int32) then
        if v1 = (0 : Int32) then
          zx_ck v2 16 <|
          zx_ls (zx_su s 11 (v2).toNatClampNeg (vp_nar .boolean (0 : Int32))) fun s3 =>
          zx_lt (v2 + (1 : Int32)) fun v2_4 =>
          (zM_ValueBenchModel_meet_L2 v1 k35 n) v2_4 s3
        else
          zx_ck v2 16 <|
          zx_ls (zx_su s 11 (v2).toNatClampNeg (vp_nar .boolean (1 : Int32))) fun s1 =>
          zx_lt (v2 + (1 : Int32)) fun v2_2 =>
          (zM_ValueBenchModel_meet_L2 v1 k35 n) v2_2 s1
      else
        zx_ck v2 16 <|
        zx_ls (zx_su s 11 (v2).toNatClampNeg (vp_nar .boolean (0 : Int32))) fun s5 =>
        zx_lt (v2 + (1 : Int32)) fun v2_6 =>
        (zM_ValueBenchModel_meet_L2 v1 k35 n) v2_6 s5
def zM_ValueBenchModel_meet_L56 (v1 v3 : Int32) (k119 : Int32 → zx_S → Option zx_S) : Nat → Int32 → Int32 → zx_S → Option zx_S
  | 0, _, _, _ => none
  | n + 1, v2, v4, s =>
    if (s 0 0) ≤ v4 then
      k119 v2 s
    else
      zx_ck v3 16 <|
      if (s 11 (v3).toNatClampNeg) = (0 : Int32) then
        zx_lt (v4 + (1 : Int32)) fun v4_14 =>
        (zM_ValueBenchModel_meet_L56 v1 v3 k119 n) v2 v4_14 s
      else
        zx_ck v4 16 <|
        if (s 11 (v4).toNatClampNeg) = (0 : Int32) then
          if v4 = v1 then
            zx_lt (v4 + (1 : Int32)) fun v4_12 =>
            (zM_ValueBenchModel_meet_L56 v1 v3 k119 n) v2 v4_12 s
          else
            zx_b1 (zM_ValueBenchModel_leads v3 v4 s) fun r8 =>
            if r8 = (0 : Int32) then
              zx_lt (v4 + (1 : Int32)) fun v4_9 =>
              (zM_ValueBenchModel_meet_L56 v1 v3 k119 n) v2 v4_9 s
            else
              zx_ck v4 16 <|
              zx_ls (zx_su s 11 (v4).toNatClampNeg (vp_nar .boolean (1 : Int32))) fun s10 =>
              zx_lt (v4 + (1 : Int32)) fun v4_11 =>
              (zM_ValueBenchModel_meet_L56 v1 v3 k119 n) (1 : Int32) v4_11 s10
        else
          zx_lt (v4 + (1 : Int32)) fun v4_13 =>
          (zM_ValueBenchModel_meet_L56 v1 v3 k119 n) v2 v4_13 s
def zM_ValueBenchModel_meet_L45 (v1 : Int32) (k125 : Int32 → zx_S → Option zx_S) : Nat → Int32 → Int32 → zx_S → Option zx_S
  | 0, _, _, _ => none
  | n + 1, v2, v3, s =>
    if (s 0 0) ≤ v3 then
      k125 v2 s
    else
      zM_ValueBenchModel_meet_L56 v1 v3
        (fun v2_15 s16 =>
          zx_lt (v3 + (1 : Int32)) fun v3_17 =>
          (zM_ValueBenchModel_meet_L45 v1 k125 n) v2_15 v3_17 s16)
        10000 v2 (0 : Int32) s
def zM_ValueBenchModel_meet_L37 (v1 : Int32) (k128 : zx_S → Option zx_S) : Nat → Int32 → zx_S → Option zx_S
  | 0, _, _ => none
  | n + 1, v2, s =>
    if v2 = (0 : Int32) then
      k128 s
    else
      zM_ValueBenchModel_meet_L45 v1
        (fun v2_18 s19 =>
          (zM_ValueBenchModel_meet_L37 v1 k128 n) v2_18 s19)
        10000 (0 : Int32) (0 : Int32) s
def zM_ValueBenchModel_meet (p1 : Int32) (s : zx_S) : Option zx_S :=
  zM_ValueBenchModel_meet_L2 p1
    (fun s7 =>
      zM_ValueBenchModel_meet_L37 p1
        (fun s20 =>
          some s20)
        10000 (1 : Int32) s7)
    10000 (0 : Int32) s
def zM_ValueBenchModel_dominates1 (p1 p2 : Int32) (s : zx_S) : Option Int32 :=
  zx_ck (((16 : Int32) * p1) + p2) 256 <|
  zx_zr (s 12 ((((16 : Int32) * p1) + p2)).toNatClampNeg) <| some (s 12 ((((16 : Int32) * p1) + p2)).toNatClampNeg)
def zM_ValueBenchModel_dominance_L7 (k33 : zx_S → Option zx_S) : Nat → Int32 → zx_S → Option zx_S
  | 0, _, _ => none
  | n + 1, v1, s =>
    if (s 0 0) ≤ v1 then
      k33 s
    else
      zx_ck v1 16 <|
      zx_lt (s 11 (v1).toNatClampNeg) fun x2 =>
      zx_ck v1 16 <|
      zx_ls (zx_su s 10 (v1).toNatClampNeg (vp_nar .boolean x2)) fun s3 =>
      zx_lt (v1 + (1 : Int32)) fun v1_4 =>
      (zM_ValueBenchModel_dominance_L7 k33 n) v1_4 s3
def zM_ValueBenchModel_dominance_L50 (v1 : Int32) (k112 : zx_S → Option zx_S) : Nat → Int32 → zx_S → Option zx_S
  | 0, _, _ => none
  | n + 1, v2, s =>
    if (s 0 0) ≤ v2 then
      k112 s
    else
      zx_ck v1 16 <|
      if (s 10 (v1).toNatClampNeg) = (0 : Int32) then
        zx_ck (((16 : Int32) * v1) + v2) 256 <|
        zx_ls (zx_su s 12 ((((16 : Int32) * v1) + v2)).toNatClampNeg (vp_nar .boolean (0 : Int32))) fun s15 =>
        zx_lt (v2 + (1 : Int32)) fun v2_16 =>
        (zM_ValueBenchModel_dominance_L50 v1 k112 n) v2_16 s15
      else
        zx_ck v2 16 <|
        if (s 10 (v2).toNatClampNeg) = (0 : Int32) then
          zx_ck (((16 : Int32) * v1) + v2) 256 <|
          zx_ls (zx_su s 12 ((((16 : Int32) * v1) + v2)).toNatClampNeg (vp_nar .boolean (0 : Int32))) fun s13 =>
          zx_lt (v2 + (1 : Int32)) fun v2_14 =>
          (zM_ValueBenchModel_dominance_L50 v1 k112 n) v2_14 s13
        else
          if v1 = v2 then
            zx_ck (((16 : Int32) * v1) + v2) 256 <|
            zx_ls (zx_su s 12 ((((16 : Int32) * v1) + v2)).toNatClampNeg (vp_nar .boolean (1 : Int32))) fun s11 =>
            zx_lt (v2 + (1 : Int32)) fun v2_12 =>
            (zM_ValueBenchModel_dominance_L50 v1 k112 n) v2_12 s11
          else
            zx_ck v2 16 <|
            if (s 11 (v2).toNatClampNeg) = (0 : Int32) then
              zx_ck (((16 : Int32) * v1) + v2) 256 <|
              zx_ls (zx_su s 12 ((((16 : Int32) * v1) + v2)).toNatClampNeg (vp_nar .boolean (1 : Int32))) fun s7 =>
              zx_lt (v2 + (1 : Int32)) fun v2_8 =>
              (zM_ValueBenchModel_dominance_L50 v1 k112 n) v2_8 s7
            else
              zx_ck (((16 : Int32) * v1) + v2) 256 <|
              zx_ls (zx_su s 12 ((((16 : Int32) * v1) + v2)).toNatClampNeg (vp_nar .boolean (0 : Int32))) fun s9 =>
              zx_lt (v2 + (1 : Int32)) fun v2_10 =>
              (zM_ValueBenchModel_dominance_L50 v1 k112 n) v2_10 s9
def zM_ValueBenchModel_dominance_L35 (k118 : zx_S → Option zx_S) : Nat → Int32 → zx_S → Option zx_S
  | 0, _, _ => none
  | n + 1, v1, s =>
    if (s 0 0) ≤ v1 then
      k118 s
    else
      zx_b1 (zM_ValueBenchModel_meet v1 s) fun s6 =>
      zM_ValueBenchModel_dominance_L50 v1
        (fun s17 =>
          zx_lt (v1 + (1 : Int32)) fun v1_18 =>
          (zM_ValueBenchModel_dominance_L35 k118 n) v1_18 s17)
        10000 (0 : Int32) s6
def zM_ValueBenchModel_dominance_L167 (v1 v2 : Int32) (s : zx_S) (k218 : Int32 → Option zx_S) : Nat → Int32 → Int32 → Option zx_S
  | 0, _, _ => none
  | n + 1, v3, v4 =>
    if (s 0 0) ≤ v4 then
      k218 v3
    else
      if v3 = (0 : Int32) then
        zx_lt (v4 + (1 : Int32)) fun v4_29 =>
        (zM_ValueBenchModel_dominance_L167 v1 v2 s k218 n) (0 : Int32) v4_29
      else
        if v4 = v1 then
          zx_lt (v4 + (1 : Int32)) fun v4_28 =>
          (zM_ValueBenchModel_dominance_L167 v1 v2 s k218 n) (1 : Int32) v4_28
        else
          zx_b1 (zM_ValueBenchModel_dominates1 v4 v1 s) fun r23 =>
          if r23 = (0 : Int32) then
            zx_lt (v4 + (1 : Int32)) fun v4_27 =>
            (zM_ValueBenchModel_dominance_L167 v1 v2 s k218 n) (1 : Int32) v4_27
          else
            zx_b1 (zM_ValueBenchModel_dominates1 v4 v2 s) fun r24 =>
            if r24 = (0 : Int32) then
              zx_lt (v4 + (1 : Int32)) fun v4_26 =>
              (zM_ValueBenchModel_dominance_L167 v1 v2 s k218 n) (0 : Int32) v4_26
            else
              zx_lt (v4 + (1 : Int32)) fun v4_25 =>
              (zM_ValueBenchModel_dominance_L167 v1 v2 s k218 n) (1 : Int32) v4_25
def zM_ValueBenchModel_dominance_L137 (v1 : Int32) (k244 : zx_S → Option zx_S) : Nat → Int32 → zx_S → Option zx_S
  | 0, _, _ => none
  | n + 1, v2, s =>
    if (s 0 0) ≤ v2 then
      k244 s
    else
      if v2 = v1 then
        zx_lt (v2 + (1 : Int32)) fun v2_36 =>
        (zM_ValueBenchModel_dominance_L137 v1 k244 n) v2_36 s
      else
        zx_b1 (zM_ValueBenchModel_dominates1 v2 v1 s) fun r21 =>
        if r21 = (0 : Int32) then
          zx_lt (v2 + (1 : Int32)) fun v2_22 =>
          (zM_ValueBenchModel_dominance_L137 v1 k244 n) v2_22 s
        else
          zM_ValueBenchModel_dominance_L167 v1 v2 s
            (fun v3_30 =>
              if v3_30 = (0 : Int32) then
                zx_ck v1 16 <|
                zx_lt (s 13 (v1).toNatClampNeg) fun x33 =>
                zx_ck v1 16 <|
                zx_ls (zx_su s 13 (v1).toNatClampNeg x33) fun s34 =>
                zx_lt (v2 + (1 : Int32)) fun v2_35 =>
                (zM_ValueBenchModel_dominance_L137 v1 k244 n) v2_35 s34
              else
                zx_ck v1 16 <|
                zx_ls (zx_su s 13 (v1).toNatClampNeg v2) fun s31 =>
                zx_lt (v2 + (1 : Int32)) fun v2_32 =>
                (zM_ValueBenchModel_dominance_L137 v1 k244 n) v2_32 s31)
            10000 (1 : Int32) (0 : Int32)
def zM_ValueBenchModel_dominance_L259 (v1 v2 : Int32) (s : zx_S) (k314 : Int32 → Option zx_S) : Nat → Int32 → Int32 → Option zx_S
  | 0, _, _ => none
  | n + 1, v3, v4 =>
    if (s 0 0) ≤ v4 then
      k314 v3
    else
      if v3 = (0 : Int32) then
        zx_ck v4 16 <|
        if (s 10 (v4).toNatClampNeg) = (0 : Int32) then
          zx_lt (v4 + (1 : Int32)) fun v4_43 =>
          (zM_ValueBenchModel_dominance_L259 v1 v2 s k314 n) (0 : Int32) v4_43
        else
          zx_b1 (zM_ValueBenchModel_leads v4 v1 s) fun r38 =>
          if r38 = (0 : Int32) then
            zx_lt (v4 + (1 : Int32)) fun v4_42 =>
            (zM_ValueBenchModel_dominance_L259 v1 v2 s k314 n) (0 : Int32) v4_42
          else
            zx_b1 (zM_ValueBenchModel_dominates1 v2 v4 s) fun r39 =>
            if r39 = (0 : Int32) then
              zx_lt (v4 + (1 : Int32)) fun v4_41 =>
              (zM_ValueBenchModel_dominance_L259 v1 v2 s k314 n) (0 : Int32) v4_41
            else
              zx_lt (v4 + (1 : Int32)) fun v4_40 =>
              (zM_ValueBenchModel_dominance_L259 v1 v2 s k314 n) (1 : Int32) v4_40
      else
        zx_lt (v4 + (1 : Int32)) fun v4_44 =>
        (zM_ValueBenchModel_dominance_L259 v1 v2 s k314 n) (1 : Int32) v4_44
def zM_ValueBenchModel_dominance_L246 (v1 : Int32) (k372 : zx_S → Option zx_S) : Nat → Int32 → zx_S → Option zx_S
  | 0, _, _ => none
  | n + 1, v2, s =>
    if (s 0 0) ≤ v2 then
      k372 s
    else
      zM_ValueBenchModel_dominance_L259 v1 v2 s
        (fun v3_45 =>
          if v3_45 = (0 : Int32) then
            zx_ck (((16 : Int32) * v2) + v1) 256 <|
            zx_ls (zx_su s 14 ((((16 : Int32) * v2) + v1)).toNatClampNeg (vp_nar .boolean (0 : Int32))) fun s57 =>
            zx_lt (v2 + (1 : Int32)) fun v2_58 =>
            (zM_ValueBenchModel_dominance_L246 v1 k372 n) v2_58 s57
          else
            zx_ck v2 16 <|
            if (s 10 (v2).toNatClampNeg) = (0 : Int32) then
              zx_ck (((16 : Int32) * v2) + v1) 256 <|
              zx_ls (zx_su s 14 ((((16 : Int32) * v2) + v1)).toNatClampNeg (vp_nar .boolean (0 : Int32))) fun s55 =>
              zx_lt (v2 + (1 : Int32)) fun v2_56 =>
              (zM_ValueBenchModel_dominance_L246 v1 k372 n) v2_56 s55
            else
              zx_ck v1 16 <|
              if (s 10 (v1).toNatClampNeg) = (0 : Int32) then
                zx_ck (((16 : Int32) * v2) + v1) 256 <|
                zx_ls (zx_su s 14 ((((16 : Int32) * v2) + v1)).toNatClampNeg (vp_nar .boolean (0 : Int32))) fun s53 =>
                zx_lt (v2 + (1 : Int32)) fun v2_54 =>
                (zM_ValueBenchModel_dominance_L246 v1 k372 n) v2_54 s53
              else
                if v2 = v1 then
                  zx_ck (((16 : Int32) * v2) + v1) 256 <|
                  zx_ls (zx_su s 14 ((((16 : Int32) * v2) + v1)).toNatClampNeg (vp_nar .boolean (1 : Int32))) fun s51 =>
                  zx_lt (v2 + (1 : Int32)) fun v2_52 =>
                  (zM_ValueBenchModel_dominance_L246 v1 k372 n) v2_52 s51
                else
                  zx_b1 (zM_ValueBenchModel_dominates1 v2 v1 s) fun r46 =>
                  if r46 = (0 : Int32) then
                    zx_ck (((16 : Int32) * v2) + v1) 256 <|
                    zx_ls (zx_su s 14 ((((16 : Int32) * v2) + v1)).toNatClampNeg (vp_nar .boolean (1 : Int32))) fun s47 =>
                    zx_lt (v2 + (1 : Int32)) fun v2_48 =>
                    (zM_ValueBenchModel_dominance_L246 v1 k372 n) v2_48 s47
                  else
                    zx_ck (((16 : Int32) * v2) + v1) 256 <|
                    zx_ls (zx_su s 14 ((((16 : Int32) * v2) + v1)).toNatClampNeg (vp_nar .boolean (0 : Int32))) fun s49 =>
                    zx_lt (v2 + (1 : Int32)) fun v2_50 =>
                    (zM_ValueBenchModel_dominance_L246 v1 k372 n) v2_50 s49)
        10000 (0 : Int32) (0 : Int32)
def zM_ValueBenchModel_dominance_L120 (k378 : zx_S → Option zx_S) : Nat → Int32 → zx_S → Option zx_S
  | 0, _, _ => none
  | n + 1, v1, s =>
    if (s 0 0) ≤ v1 then
      k378 s
    else
      zx_ck v1 16 <|
      zx_ls (zx_su s 13 (v1).toNatClampNeg (-1 : Int32)) fun s20 =>
      zM_ValueBenchModel_dominance_L137 v1
        (fun s37 =>
          zM_ValueBenchModel_dominance_L246 v1
            (fun s59 =>
              zx_lt (v1 + (1 : Int32)) fun v1_60 =>
              (zM_ValueBenchModel_dominance_L120 k378 n) v1_60 s59)
            10000 (0 : Int32) s37)
        10000 (0 : Int32) s20
def zM_ValueBenchModel_dominance (s : zx_S) : Option zx_S :=
  zx_b1 (zM_ValueBenchModel_meet (-1 : Int32) s) fun s1 =>
  zM_ValueBenchModel_dominance_L7
    (fun s5 =>
      zM_ValueBenchModel_dominance_L35
        (fun s19 =>
          zM_ValueBenchModel_dominance_L120
            (fun s61 =>
              some s61)
            10000 (0 : Int32) s19)
        10000 (0 : Int32) s5)
    10000 (0 : Int32) s1
def zM_ValueBenchModel_gives_L2 (v1 v2 : Int32) (s : zx_S) (k43 : Option Int32) : Nat → Int32 → Option Int32
  | 0, _ => none
  | n + 1, v3 =>
    zx_ck v1 16 <|
    if (s 5 (v1).toNatClampNeg) ≤ v3 then
      some (0 : Int32)
    else
      zx_ck (((100 : Int32) * v1) + v3) 1600 <|
      if (s 1 ((((100 : Int32) * v1) + v3)).toNatClampNeg) = (14 : Int32) then
        zx_lt (v3 + (1 : Int32)) fun v3_2 =>
        (zM_ValueBenchModel_gives_L2 v1 v2 s k43 n) v3_2
      else
        zx_ck (((100 : Int32) * v1) + v3) 1600 <|
        if (s 2 ((((100 : Int32) * v1) + v3)).toNatClampNeg) = v2 then
          k43
        else
          zx_lt (v3 + (1 : Int32)) fun v3_1 =>
          (zM_ValueBenchModel_gives_L2 v1 v2 s k43 n) v3_1
def zM_ValueBenchModel_gives (p1 p2 : Int32) (s : zx_S) : Option Int32 :=
  zM_ValueBenchModel_gives_L2 p1 p2 s
    (
      some (1 : Int32))
    10000 (0 : Int32)
def zM_ValueBenchModel_choices_L2 (k22 : zx_S → Option zx_S) : Nat → Int32 → zx_S → Option zx_S
  | 0, _, _ => none
  | n + 1, v1, s =>
    if (160 : Int32) ≤ v1 then
      k22 s
    else
      zx_ck v1 160 <|
      zx_ls (zx_su s 15 (v1).toNatClampNeg (vp_nar .boolean (0 : Int32))) fun s1 =>
      zx_lt (v1 + (1 : Int32)) fun v1_2 =>
      (zM_ValueBenchModel_choices_L2 k22 n) v1_2 s1
def zM_ValueBenchModel_choices_L70 (v2 v3 : Int32) (k145 : Int32 → zx_S → Option zx_S) : Nat → Int32 → Int32 → zx_S → Option zx_S
  | 0, _, _, _ => none
  | n + 1, v1, v4, s =>
    if (10 : Int32) ≤ v4 then
      k145 v1 s
    else
      zx_ck (((10 : Int32) * v3) + v4) 160 <|
      if (s 15 ((((10 : Int32) * v3) + v4)).toNatClampNeg) = (0 : Int32) then
        if v2 = (0 : Int32) then
          zx_ck (((10 : Int32) * v3) + v4) 160 <|
          zx_ls (zx_su s 15 ((((10 : Int32) * v3) + v4)).toNatClampNeg (vp_nar .boolean (1 : Int32))) fun s11 =>
          zx_lt (v4 + (1 : Int32)) fun v4_12 =>
          (zM_ValueBenchModel_choices_L70 v2 v3 k145 n) (1 : Int32) v4_12 s11
        else
          zx_b1 (zM_ValueBenchModel_gives v2 v4 s) fun r5 =>
          if r5 = (0 : Int32) then
            zx_ck (((10 : Int32) * v2) + v4) 160 <|
            if (s 15 ((((10 : Int32) * v2) + v4)).toNatClampNeg) = (0 : Int32) then
              zx_lt (v4 + (1 : Int32)) fun v4_6 =>
              (zM_ValueBenchModel_choices_L70 v2 v3 k145 n) v1 v4_6 s
            else
              zx_ck (((10 : Int32) * v3) + v4) 160 <|
              zx_ls (zx_su s 15 ((((10 : Int32) * v3) + v4)).toNatClampNeg (vp_nar .boolean (1 : Int32))) fun s7 =>
              zx_lt (v4 + (1 : Int32)) fun v4_8 =>
              (zM_ValueBenchModel_choices_L70 v2 v3 k145 n) (1 : Int32) v4_8 s7
          else
            zx_ck (((10 : Int32) * v3) + v4) 160 <|
            zx_ls (zx_su s 15 ((((10 : Int32) * v3) + v4)).toNatClampNeg (vp_nar .boolean (1 : Int32))) fun s9 =>
            zx_lt (v4 + (1 : Int32)) fun v4_10 =>
            (zM_ValueBenchModel_choices_L70 v2 v3 k145 n) (1 : Int32) v4_10 s9
      else
        zx_lt (v4 + (1 : Int32)) fun v4_13 =>
        (zM_ValueBenchModel_choices_L70 v2 v3 k145 n) v1 v4_13 s
def zM_ValueBenchModel_choices_L42 (v2 : Int32) (k151 : Int32 → zx_S → Option zx_S) : Nat → Int32 → Int32 → zx_S → Option zx_S
  | 0, _, _, _ => none
  | n + 1, v1, v3, s =>
    if (s 0 0) ≤ v3 then
      k151 v1 s
    else
      zx_ck (((16 : Int32) * v2) + v3) 256 <|
      if (s 14 ((((16 : Int32) * v2) + v3)).toNatClampNeg) = (0 : Int32) then
        zx_lt (v3 + (1 : Int32)) fun v3_4 =>
        (zM_ValueBenchModel_choices_L42 v2 k151 n) v1 v3_4 s
      else
        zM_ValueBenchModel_choices_L70 v2 v3
          (fun v1_14 s15 =>
            zx_lt (v3 + (1 : Int32)) fun v3_16 =>
            (zM_ValueBenchModel_choices_L42 v2 k151 n) v1_14 v3_16 s15)
          10000 v1 (0 : Int32) s
def zM_ValueBenchModel_choices_L32 (k157 : Int32 → zx_S → Option zx_S) : Nat → Int32 → Int32 → zx_S → Option zx_S
  | 0, _, _, _ => none
  | n + 1, v1, v2, s =>
    if (s 0 0) ≤ v2 then
      k157 v1 s
    else
      zM_ValueBenchModel_choices_L42 v2
        (fun v1_17 s18 =>
          zx_lt (v2 + (1 : Int32)) fun v2_19 =>
          (zM_ValueBenchModel_choices_L32 k157 n) v1_17 v2_19 s18)
        10000 v1 (0 : Int32) s
def zM_ValueBenchModel_choices_L24 (k160 : zx_S → Option zx_S) : Nat → Int32 → zx_S → Option zx_S
  | 0, _, _ => none
  | n + 1, v1, s =>
    if v1 = (0 : Int32) then
      k160 s
    else
      zM_ValueBenchModel_choices_L32
        (fun v1_20 s21 =>
          (zM_ValueBenchModel_choices_L24 k160 n) v1_20 s21)
        10000 (0 : Int32) (0 : Int32) s
def zM_ValueBenchModel_choices (s : zx_S) : Option zx_S :=
  zM_ValueBenchModel_choices_L2
    (fun s3 =>
      zM_ValueBenchModel_choices_L24
        (fun s22 =>
          some s22)
        10000 (1 : Int32) s3)
    10000 (0 : Int32) s
def zM_ValueBenchModel_comes (p1 p2 p3 p4 p5 : Int32) (s : zx_S) : Option (Int32 × zx_S) :=
  zx_ck (s 0 18) 270 <|
  zx_ls (zx_su s 16 ((s 0 18)).toNatClampNeg p1) fun s1 =>
  zx_ck (s1 0 18) 270 <|
  zx_ls (zx_su s1 17 ((s1 0 18)).toNatClampNeg p2) fun s2 =>
  zx_ck (s2 0 18) 270 <|
  zx_ls (zx_su s2 18 ((s2 0 18)).toNatClampNeg p3) fun s3 =>
  zx_ck (s3 0 18) 270 <|
  zx_ls (zx_su s3 19 ((s3 0 18)).toNatClampNeg p4) fun s4 =>
  zx_ck (s4 0 18) 270 <|
  zx_ls (zx_su s4 20 ((s4 0 18)).toNatClampNeg p5) fun s5 =>
  zx_ck (s5 0 18) 270 <|
  zx_ls (zx_su s5 22 ((s5 0 18)).toNatClampNeg (0 : Int32)) fun s6 =>
  zx_lt ((s6 0 18) + (1 : Int32)) fun x7 =>
  zx_ls (zx_su s6 0 18 x7) fun s8 =>
  some (((s8 0 18) - (1 : Int32)), s8)
def zM_ValueBenchModel_numbers_L48 (v2 : Int32) (k95 : zx_S → Option zx_S) : Nat → Int32 → zx_S → Option zx_S
  | 0, _, _ => none
  | n + 1, v3, s =>
    if (10 : Int32) ≤ v3 then
      k95 s
    else
      zx_ck (((10 : Int32) * v2) + v3) 160 <|
      if (s 15 ((((10 : Int32) * v2) + v3)).toNatClampNeg) = (0 : Int32) then
        zx_lt (v3 + (1 : Int32)) fun v3_9 =>
        (zM_ValueBenchModel_numbers_L48 v2 k95 n) v3_9 s
      else
        zx_b2 (zM_ValueBenchModel_comes (15 : Int32) v2 v3 (-1 : Int32) (-1 : Int32) s) fun r5 s6 =>
        zx_ck (((10 : Int32) * v2) + v3) 160 <|
        zx_ls (zx_su s6 23 ((((10 : Int32) * v2) + v3)).toNatClampNeg r5) fun s7 =>
        zx_lt (v3 + (1 : Int32)) fun v3_8 =>
        (zM_ValueBenchModel_numbers_L48 v2 k95 n) v3_8 s7
def zM_ValueBenchModel_numbers_J190 (k97 : Int32 → zx_S → Option zx_S) (v2 v3 t1 t3 t4 t5 t6 : Int32) (s : zx_S) : Option zx_S :=
  zx_b2 (zM_ValueBenchModel_comes t3 t4 t5 t6 v3 s) fun r13 s14 =>
  zx_ck t1 1600 <|
  zx_ls (zx_su s14 24 (t1).toNatClampNeg r13) fun s15 =>
  zx_lt (v3 + (1 : Int32)) fun v3_16 =>
  k97 v3_16 s15
def zM_ValueBenchModel_numbers_L97 (v2 : Int32) (k201 : zx_S → Option zx_S) : Nat → Int32 → zx_S → Option zx_S
  | 0, _, _ => none
  | n + 1, v3, s =>
    zx_ck v2 16 <|
    if (s 5 (v2).toNatClampNeg) ≤ v3 then
      k201 s
    else
      zx_lt (((100 : Int32) * v2) + v3) fun v4_11 =>
      zx_ck v4_11 1600 <|
      zx_ls (zx_su s 24 (v4_11).toNatClampNeg (-1 : Int32)) fun s12 =>
      zx_ck v4_11 1600 <|
      if (s12 1 (v4_11).toNatClampNeg) = (2 : Int32) then
        zx_lt (v3 + (1 : Int32)) fun v3_18 =>
        (zM_ValueBenchModel_numbers_L97 v2 k201 n) v3_18 s12
      else
        zx_ck v4_11 1600 <|
        if (s12 1 (v4_11).toNatClampNeg) = (14 : Int32) then
          zx_lt (v3 + (1 : Int32)) fun v3_17 =>
          (zM_ValueBenchModel_numbers_L97 v2 k201 n) v3_17 s12
        else
          zx_ck v4_11 1600 <|
          zx_ck v4_11 1600 <|
          zx_ck v4_11 1600 <|
          if (2 : Int32) ≤ (s12 1 (v4_11).toNatClampNeg) then
            (zM_ValueBenchModel_numbers_J190 (zM_ValueBenchModel_numbers_L97 v2 k201 n)) v2 v3 v4_11 (s12 1 (v4_11).toNatClampNeg) v2 (s12 2 (v4_11).toNatClampNeg) (-1 : Int32) s12
          else
            zx_ck v4_11 1600 <|
            (zM_ValueBenchModel_numbers_J190 (zM_ValueBenchModel_numbers_L97 v2 k201 n)) v2 v3 v4_11 (s12 1 (v4_11).toNatClampNeg) v2 (s12 2 (v4_11).toNatClampNeg) (s12 3 (v4_11).toNatClampNeg) s12
def zM_ValueBenchModel_numbers_L26 (k207 : zx_S → Option zx_S) : Nat → Int32 → zx_S → Option zx_S
  | 0, _, _ => none
  | n + 1, v2, s =>
    if (s 0 0) ≤ v2 then
      k207 s
    else
      zx_ck v2 16 <|
      if (s 10 (v2).toNatClampNeg) = (0 : Int32) then
        zx_lt (v2 + (1 : Int32)) fun v2_4 =>
        (zM_ValueBenchModel_numbers_L26 k207 n) v2_4 s
      else
        zM_ValueBenchModel_numbers_L48 v2
          (fun s10 =>
            zM_ValueBenchModel_numbers_L97 v2
              (fun s19 =>
                zx_lt (v2 + (1 : Int32)) fun v2_20 =>
                (zM_ValueBenchModel_numbers_L26 k207 n) v2_20 s19)
              10000 (0 : Int32) s10)
          10000 (0 : Int32) s
def zM_ValueBenchModel_numbers (s : zx_S) : Option zx_S :=
  zx_ls (zx_su s 0 18 (0 : Int32)) fun s1 =>
  if (s1 0 0) = (0 : Int32) then
    some s1
  else
    zx_b2 (zM_ValueBenchModel_comes (0 : Int32) (0 : Int32) (-1 : Int32) (0 : Int32) (-2 : Int32) s1) fun r2 s3 =>
    zM_ValueBenchModel_numbers_L26
      (fun s21 =>
        some s21)
      10000 (0 : Int32) s3
def zM_ValueBenchModel_adds (p1 p2 : Int32) (s : zx_S) : Option zx_S :=
  zx_ck p1 270 <|
  zx_ck (((20 : Int32) * p1) + (s 22 (p1).toNatClampNeg)) 5400 <|
  zx_ls (zx_su s 21 ((((20 : Int32) * p1) + (s 22 (p1).toNatClampNeg))).toNatClampNeg p2) fun s1 =>
  zx_ck p1 270 <|
  zx_lt ((s1 22 (p1).toNatClampNeg) + (1 : Int32)) fun x2 =>
  zx_ck p1 270 <|
  zx_ls (zx_su s1 22 (p1).toNatClampNeg x2) fun s3 =>
  some s3
def zM_ValueBenchModel_through_J132 (k3 : Int32 → zx_S → Option zx_S) (v1 v2 v3 v4 v5 : Int32) (s : zx_S) : Option zx_S :=
  zx_ck v5 1600 <|
  zx_ck v5 1600 <|
  zx_lt (s 24 (v5).toNatClampNeg) fun x6 =>
  zx_ck (s 2 (v5).toNatClampNeg) 10 <|
  zx_ls (zx_su s 27 ((s 2 (v5).toNatClampNeg)).toNatClampNeg x6) fun s7 =>
  zx_lt (v4 + (1 : Int32)) fun v4_8 =>
  k3 v4_8 s7
def zM_ValueBenchModel_through_L3 (v1 v2 v3 : Int32) (k157 : zx_S → Option zx_S) : Nat → Int32 → zx_S → Option zx_S
  | 0, _, _ => none
  | n + 1, v4, s =>
    if v2 ≤ v4 then
      k157 s
    else
      zx_lt (((100 : Int32) * v1) + v4) fun v5_1 =>
      zx_ck v5_1 1600 <|
      if (s 1 (v5_1).toNatClampNeg) = (14 : Int32) then
        zx_lt (v4 + (1 : Int32)) fun v4_2 =>
        (zM_ValueBenchModel_through_L3 v1 v2 v3 k157 n) v4_2 s
      else
        zx_ck v5_1 1600 <|
        if (s 1 (v5_1).toNatClampNeg) = (2 : Int32) then
          zx_ck v5_1 1600 <|
          zx_ck v5_1 1600 <|
          zx_ck (s 3 (v5_1).toNatClampNeg) 10 <|
          zx_lt (s 27 ((s 3 (v5_1).toNatClampNeg)).toNatClampNeg) fun x3 =>
          zx_ck (s 2 (v5_1).toNatClampNeg) 10 <|
          zx_ls (zx_su s 27 ((s 2 (v5_1).toNatClampNeg)).toNatClampNeg x3) fun s4 =>
          zx_lt (v4 + (1 : Int32)) fun v4_5 =>
          (zM_ValueBenchModel_through_L3 v1 v2 v3 k157 n) v4_5 s4
        else
          if v3 = (0 : Int32) then
            (zM_ValueBenchModel_through_J132 (zM_ValueBenchModel_through_L3 v1 v2 v3 k157 n)) v1 v2 v3 v4 v5_1 s
          else
            zx_ck v5_1 1600 <|
            if (s 1 (v5_1).toNatClampNeg) < (3 : Int32) then
              (zM_ValueBenchModel_through_J132 (zM_ValueBenchModel_through_L3 v1 v2 v3 k157 n)) v1 v2 v3 v4 v5_1 s
            else
              zx_ck v5_1 1600 <|
              zx_ck v5_1 1600 <|
              zx_ck (s 3 (v5_1).toNatClampNeg) 10 <|
              zx_b1 (zM_ValueBenchModel_adds (s 24 (v5_1).toNatClampNeg) (s 27 ((s 3 (v5_1).toNatClampNeg)).toNatClampNeg) s) fun s9 =>
              zx_ck v5_1 1600 <|
              zx_ck v5_1 1600 <|
              zx_ck (s9 4 (v5_1).toNatClampNeg) 10 <|
              zx_b1 (zM_ValueBenchModel_adds (s9 24 (v5_1).toNatClampNeg) (s9 27 ((s9 4 (v5_1).toNatClampNeg)).toNatClampNeg) s9) fun s10 =>
              (zM_ValueBenchModel_through_J132 (zM_ValueBenchModel_through_L3 v1 v2 v3 k157 n)) v1 v2 v3 v4 v5_1 s10
def zM_ValueBenchModel_through (p1 p2 p3 : Int32) (s : zx_S) : Option zx_S :=
  zM_ValueBenchModel_through_L3 p1 p2 p3
    (fun s11 =>
      some s11)
    10000 (0 : Int32) s
def zM_ValueBenchModel_names_L2 (k36 : zx_S → Option zx_S) : Nat → Int32 → zx_S → Option zx_S
  | 0, _, _ => none
  | n + 1, v1, s =>
    if (s 0 0) ≤ v1 then
      k36 s
    else
      zx_ck v1 16 <|
      if (s 10 (v1).toNatClampNeg) = (0 : Int32) then
        zx_ck v1 16 <|
        zx_ls (zx_su s 11 (v1).toNatClampNeg (vp_nar .boolean (1 : Int32))) fun s1 =>
        zx_lt (v1 + (1 : Int32)) fun v1_2 =>
        (zM_ValueBenchModel_names_L2 k36 n) v1_2 s1
      else
        zx_ck v1 16 <|
        zx_ls (zx_su s 11 (v1).toNatClampNeg (vp_nar .boolean (0 : Int32))) fun s3 =>
        zx_lt (v1 + (1 : Int32)) fun v1_4 =>
        (zM_ValueBenchModel_names_L2 k36 n) v1_4 s3
def zM_ValueBenchModel_names_J158 (k95 : Int32 → zx_S → Option zx_S) (v1 v2 v3 t1 t2 : Int32) (s : zx_S) : Option zx_S :=
  zx_ck t1 10 <|
  zx_ls (zx_su s 27 (t1).toNatClampNeg t2) fun s8 =>
  zx_ck v3 10 <|
  zx_lt (s8 27 (v3).toNatClampNeg) fun x9 =>
  zx_ck (((10 : Int32) * v2) + v3) 160 <|
  zx_ls (zx_su s8 25 ((((10 : Int32) * v2) + v3)).toNatClampNeg x9) fun s10 =>
  zx_lt (v3 + (1 : Int32)) fun v3_11 =>
  k95 v3_11 s10
def zM_ValueBenchModel_names_L95 (v1 v2 : Int32) (k182 : zx_S → Option zx_S) : Nat → Int32 → zx_S → Option zx_S
  | 0, _, _ => none
  | n + 1, v3, s =>
    if (10 : Int32) ≤ v3 then
      k182 s
    else
      zx_ck (((10 : Int32) * v2) + v3) 160 <|
      if (s 15 ((((10 : Int32) * v2) + v3)).toNatClampNeg) = (0 : Int32) then
        if v2 = (0 : Int32) then
          (zM_ValueBenchModel_names_J158 (zM_ValueBenchModel_names_L95 v1 v2 k182 n)) v1 v2 v3 v3 (0 : Int32) s
        else
          zx_ck v2 16 <|
          zx_ck (((10 : Int32) * (s 13 (v2).toNatClampNeg)) + v3) 160 <|
          (zM_ValueBenchModel_names_J158 (zM_ValueBenchModel_names_L95 v1 v2 k182 n)) v1 v2 v3 v3 (s 26 ((((10 : Int32) * (s 13 (v2).toNatClampNeg)) + v3)).toNatClampNeg) s
      else
        zx_ck (((10 : Int32) * v2) + v3) 160 <|
        (zM_ValueBenchModel_names_J158 (zM_ValueBenchModel_names_L95 v1 v2 k182 n)) v1 v2 v3 v3 (s 23 ((((10 : Int32) * v2) + v3)).toNatClampNeg) s
def zM_ValueBenchModel_names_L196 (v1 v2 : Int32) (k225 : zx_S → Option zx_S) : Nat → Int32 → zx_S → Option zx_S
  | 0, _, _ => none
  | n + 1, v3, s =>
    if (10 : Int32) ≤ v3 then
      k225 s
    else
      zx_ck v3 10 <|
      zx_lt (s 27 (v3).toNatClampNeg) fun x14 =>
      zx_ck (((10 : Int32) * v2) + v3) 160 <|
      zx_ls (zx_su s 26 ((((10 : Int32) * v2) + v3)).toNatClampNeg x14) fun s15 =>
      zx_lt (v3 + (1 : Int32)) fun v3_16 =>
      (zM_ValueBenchModel_names_L196 v1 v2 k225 n) v3_16 s15
def zM_ValueBenchModel_names_J158b (k95 : Int32 → zx_S → Option zx_S) (v1 v2 v3 t1 t2 : Int32) (s : zx_S) : Option zx_S :=
  zx_ck t1 10 <|
  zx_ls (zx_su s 27 (t1).toNatClampNeg t2) fun s20 =>
  zx_ck v3 10 <|
  zx_lt (s20 27 (v3).toNatClampNeg) fun x21 =>
  zx_ck (((10 : Int32) * v2) + v3) 160 <|
  zx_ls (zx_su s20 25 ((((10 : Int32) * v2) + v3)).toNatClampNeg x21) fun s22 =>
  zx_lt (v3 + (1 : Int32)) fun v3_23 =>
  k95 v3_23 s22
def zM_ValueBenchModel_names_L95b (v1 v2 : Int32) (k182 : zx_S → Option zx_S) : Nat → Int32 → zx_S → Option zx_S
  | 0, _, _ => none
  | n + 1, v3, s =>
    if (10 : Int32) ≤ v3 then
      k182 s
    else
      zx_ck (((10 : Int32) * v2) + v3) 160 <|
      if (s 15 ((((10 : Int32) * v2) + v3)).toNatClampNeg) = (0 : Int32) then
        if v2 = (0 : Int32) then
          (zM_ValueBenchModel_names_J158b (zM_ValueBenchModel_names_L95b v1 v2 k182 n)) v1 v2 v3 v3 (0 : Int32) s
        else
          zx_ck v2 16 <|
          zx_ck (((10 : Int32) * (s 13 (v2).toNatClampNeg)) + v3) 160 <|
          (zM_ValueBenchModel_names_J158b (zM_ValueBenchModel_names_L95b v1 v2 k182 n)) v1 v2 v3 v3 (s 26 ((((10 : Int32) * (s 13 (v2).toNatClampNeg)) + v3)).toNatClampNeg) s
      else
        zx_ck (((10 : Int32) * v2) + v3) 160 <|
        (zM_ValueBenchModel_names_J158b (zM_ValueBenchModel_names_L95b v1 v2 k182 n)) v1 v2 v3 v3 (s 23 ((((10 : Int32) * v2) + v3)).toNatClampNeg) s
def zM_ValueBenchModel_names_L196b (v1 v2 : Int32) (k225 : zx_S → Option zx_S) : Nat → Int32 → zx_S → Option zx_S
  | 0, _, _ => none
  | n + 1, v3, s =>
    if (10 : Int32) ≤ v3 then
      k225 s
    else
      zx_ck v3 10 <|
      zx_lt (s 27 (v3).toNatClampNeg) fun x26 =>
      zx_ck (((10 : Int32) * v2) + v3) 160 <|
      zx_ls (zx_su s 26 ((((10 : Int32) * v2) + v3)).toNatClampNeg x26) fun s27 =>
      zx_lt (v3 + (1 : Int32)) fun v3_28 =>
      (zM_ValueBenchModel_names_L196b v1 v2 k225 n) v3_28 s27
def zM_ValueBenchModel_names_L46 (k231 : Int32 → zx_S → Option zx_S) : Nat → Int32 → Int32 → zx_S → Option zx_S
  | 0, _, _, _ => none
  | n + 1, v1, v2, s =>
    if (s 0 0) ≤ v2 then
      k231 v1 s
    else
      zx_ck v2 16 <|
      if (s 11 (v2).toNatClampNeg) = (0 : Int32) then
        if v2 ≤ (0 : Int32) then
          zx_ck v2 16 <|
          zx_ls (zx_su s 11 (v2).toNatClampNeg (vp_nar .boolean (1 : Int32))) fun s19 =>
          zM_ValueBenchModel_names_L95b (1 : Int32) v2
            (fun s24 =>
              zx_ck v2 16 <|
              zx_b1 (zM_ValueBenchModel_through v2 (s24 5 (v2).toNatClampNeg) (1 : Int32) s24) fun s25 =>
              zM_ValueBenchModel_names_L196b (1 : Int32) v2
                (fun s29 =>
                  zx_lt (v2 + (1 : Int32)) fun v2_30 =>
                  (zM_ValueBenchModel_names_L46 k231 n) (1 : Int32) v2_30 s29)
                10000 (0 : Int32) s25)
            10000 (0 : Int32) s19
        else
          zx_ck v2 16 <|
          zx_ck (s 13 (v2).toNatClampNeg) 16 <|
          if (s 11 ((s 13 (v2).toNatClampNeg)).toNatClampNeg) = (0 : Int32) then
            zx_lt (v2 + (1 : Int32)) fun v2_6 =>
            (zM_ValueBenchModel_names_L46 k231 n) v1 v2_6 s
          else
            zx_ck v2 16 <|
            zx_ls (zx_su s 11 (v2).toNatClampNeg (vp_nar .boolean (1 : Int32))) fun s7 =>
            zM_ValueBenchModel_names_L95 (1 : Int32) v2
              (fun s12 =>
                zx_ck v2 16 <|
                zx_b1 (zM_ValueBenchModel_through v2 (s12 5 (v2).toNatClampNeg) (1 : Int32) s12) fun s13 =>
                zM_ValueBenchModel_names_L196 (1 : Int32) v2
                  (fun s17 =>
                    zx_lt (v2 + (1 : Int32)) fun v2_18 =>
                    (zM_ValueBenchModel_names_L46 k231 n) (1 : Int32) v2_18 s17)
                  10000 (0 : Int32) s13)
              10000 (0 : Int32) s7
      else
        zx_lt (v2 + (1 : Int32)) fun v2_31 =>
        (zM_ValueBenchModel_names_L46 k231 n) v1 v2_31 s
def zM_ValueBenchModel_names_L38 (k234 : zx_S → Option zx_S) : Nat → Int32 → zx_S → Option zx_S
  | 0, _, _ => none
  | n + 1, v1, s =>
    if v1 = (0 : Int32) then
      k234 s
    else
      zM_ValueBenchModel_names_L46
        (fun v1_32 s33 =>
          (zM_ValueBenchModel_names_L38 k234 n) v1_32 s33)
        10000 (0 : Int32) (0 : Int32) s
def zM_ValueBenchModel_names_L294 (v2 v3 v4 : Int32) (k347 : zx_S → Option zx_S) : Nat → Int32 → zx_S → Option zx_S
  | 0, _, _ => none
  | n + 1, v5, s =>
    if (s 0 0) ≤ v5 then
      k347 s
    else
      zx_ck v5 16 <|
      if (s 10 (v5).toNatClampNeg) = (0 : Int32) then
        zx_lt (v5 + (1 : Int32)) fun v5_41 =>
        (zM_ValueBenchModel_names_L294 v2 v3 v4 k347 n) v5_41 s
      else
        zx_b1 (zM_ValueBenchModel_leads v5 v2 s) fun r37 =>
        if r37 = (0 : Int32) then
          zx_lt (v5 + (1 : Int32)) fun v5_40 =>
          (zM_ValueBenchModel_names_L294 v2 v3 v4 k347 n) v5_40 s
        else
          zx_ck (((10 : Int32) * v5) + v3) 160 <|
          zx_b1 (zM_ValueBenchModel_adds v4 (s 26 ((((10 : Int32) * v5) + v3)).toNatClampNeg) s) fun s38 =>
          zx_lt (v5 + (1 : Int32)) fun v5_39 =>
          (zM_ValueBenchModel_names_L294 v2 v3 v4 k347 n) v5_39 s38
def zM_ValueBenchModel_names_L246 (v2 : Int32) (k364 : zx_S → Option zx_S) : Nat → Int32 → zx_S → Option zx_S
  | 0, _, _ => none
  | n + 1, v3, s =>
    zx_ck v2 16 <|
    if (s 10 (v2).toNatClampNeg) = (0 : Int32) then
      k364 s
    else
      if (10 : Int32) ≤ v3 then
        k364 s
      else
        zx_ck (((10 : Int32) * v2) + v3) 160 <|
        if (s 15 ((((10 : Int32) * v2) + v3)).toNatClampNeg) = (0 : Int32) then
          zx_lt (v3 + (1 : Int32)) fun v3_35 =>
          (zM_ValueBenchModel_names_L246 v2 k364 n) v3_35 s
        else
          zx_ck (((10 : Int32) * v2) + v3) 160 <|
          zx_lt (s 23 ((((10 : Int32) * v2) + v3)).toNatClampNeg) fun v4_36 =>
          zM_ValueBenchModel_names_L294 v2 v3 v4_36
            (fun s42 =>
              if v2 = (0 : Int32) then
                zx_b1 (zM_ValueBenchModel_adds v4_36 (0 : Int32) s42) fun s43 =>
                zx_lt (v3 + (1 : Int32)) fun v3_44 =>
                (zM_ValueBenchModel_names_L246 v2 k364 n) v3_44 s43
              else
                zx_lt (v3 + (1 : Int32)) fun v3_45 =>
                (zM_ValueBenchModel_names_L246 v2 k364 n) v3_45 s42)
            10000 (0 : Int32) s
def zM_ValueBenchModel_names_L236 (k370 : zx_S → Option zx_S) : Nat → Int32 → zx_S → Option zx_S
  | 0, _, _ => none
  | n + 1, v2, s =>
    if (s 0 0) ≤ v2 then
      k370 s
    else
      zM_ValueBenchModel_names_L246 v2
        (fun s46 =>
          zx_lt (v2 + (1 : Int32)) fun v2_47 =>
          (zM_ValueBenchModel_names_L236 k370 n) v2_47 s46)
        10000 (0 : Int32) s
def zM_ValueBenchModel_names (s : zx_S) : Option zx_S :=
  zM_ValueBenchModel_names_L2
    (fun s5 =>
      zM_ValueBenchModel_names_L38
        (fun s34 =>
          zM_ValueBenchModel_names_L236
            (fun s48 =>
              some s48)
            10000 (0 : Int32) s34)
        10000 (1 : Int32) s5)
    10000 (0 : Int32) s
def zM_ValueBenchModel_isOneSort (p1 p2 : Int32) (s : zx_S) : Option Int32 :=
  zx_ck p1 270 <|
  zx_lt (s 16 (p1).toNatClampNeg) fun v3_1 =>
  zx_ck p2 270 <|
  if v3_1 = (s 16 (p2).toNatClampNeg) then
    if (1 : Int32) < v3_1 then
      if v3_1 = (15 : Int32) then
        zx_ck p1 270 <|
        zx_ck p2 270 <|
        if (s 17 (p1).toNatClampNeg) = (s 17 (p2).toNatClampNeg) then
          some (1 : Int32)
        else
          some (0 : Int32)
      else
        some (1 : Int32)
    else
      zx_ck p1 270 <|
      zx_ck p2 270 <|
      if (s 19 (p1).toNatClampNeg) = (s 19 (p2).toNatClampNeg) then
        if v3_1 = (15 : Int32) then
          zx_ck p1 270 <|
          zx_ck p2 270 <|
          if (s 17 (p1).toNatClampNeg) = (s 17 (p2).toNatClampNeg) then
            some (1 : Int32)
          else
            some (0 : Int32)
        else
          some (1 : Int32)
      else
        some (0 : Int32)
  else
    some (0 : Int32)
def zM_ValueBenchModel_isEven (p0 : Int32) (s : zx_S) : Option Int32 :=
  if p0 = (3 : Int32) then
    some (1 : Int32)
  else
    if p0 < (5 : Int32) then
      some (0 : Int32)
    else
      if (9 : Int32) < p0 then
        some (0 : Int32)
      else
        some (1 : Int32)
def zM_ValueBenchModel_hangTogether_L5 (v1 v2 : Int32) (s : zx_S) (k69 : Int32 → Option Int32) : Nat → Int32 → Int32 → Option Int32
  | 0, _, _ => none
  | n + 1, v3, v4 =>
    zx_ck v1 270 <|
    if (s 22 (v1).toNatClampNeg) ≤ v4 then
      k69 v3
    else
      if v3 = (0 : Int32) then
        zx_lt (v4 + (1 : Int32)) fun v4_3 =>
        (zM_ValueBenchModel_hangTogether_L5 v1 v2 s k69 n) (0 : Int32) v4_3
      else
        zx_ck (((20 : Int32) * v1) + v4) 5400 <|
        zx_ck (s 21 ((((20 : Int32) * v1) + v4)).toNatClampNeg) 270 <|
        zx_ck (((20 : Int32) * v2) + v4) 5400 <|
        zx_ck (s 21 ((((20 : Int32) * v2) + v4)).toNatClampNeg) 270 <|
        if (s 28 ((s 21 ((((20 : Int32) * v1) + v4)).toNatClampNeg)).toNatClampNeg) = (s 28 ((s 21 ((((20 : Int32) * v2) + v4)).toNatClampNeg)).toNatClampNeg) then
          zx_lt (v4 + (1 : Int32)) fun v4_1 =>
          (zM_ValueBenchModel_hangTogether_L5 v1 v2 s k69 n) (1 : Int32) v4_1
        else
          zx_lt (v4 + (1 : Int32)) fun v4_2 =>
          (zM_ValueBenchModel_hangTogether_L5 v1 v2 s k69 n) (0 : Int32) v4_2
def zM_ValueBenchModel_hangTogether (p1 p2 : Int32) (s : zx_S) : Option Int32 :=
  zM_ValueBenchModel_hangTogether_L5 p1 p2 s
    (fun v3_4 =>
      if v3_4 = (0 : Int32) then
        zx_ck p1 270 <|
        zx_b1 (zM_ValueBenchModel_isEven (s 16 (p1).toNatClampNeg) s) fun r5 =>
        if r5 = (0 : Int32) then
          zx_zr v3_4 <| some v3_4
        else
          zx_ck ((20 : Int32) * p1) 5400 <|
          zx_ck (s 21 (((20 : Int32) * p1)).toNatClampNeg) 270 <|
          zx_ck (((20 : Int32) * p2) + (1 : Int32)) 5400 <|
          zx_ck (s 21 ((((20 : Int32) * p2) + (1 : Int32))).toNatClampNeg) 270 <|
          if (s 28 ((s 21 (((20 : Int32) * p1)).toNatClampNeg)).toNatClampNeg) = (s 28 ((s 21 ((((20 : Int32) * p2) + (1 : Int32))).toNatClampNeg)).toNatClampNeg) then
            zx_ck (((20 : Int32) * p1) + (1 : Int32)) 5400 <|
            zx_ck (s 21 ((((20 : Int32) * p1) + (1 : Int32))).toNatClampNeg) 270 <|
            zx_ck ((20 : Int32) * p2) 5400 <|
            zx_ck (s 21 (((20 : Int32) * p2)).toNatClampNeg) 270 <|
            if (s 28 ((s 21 ((((20 : Int32) * p1) + (1 : Int32))).toNatClampNeg)).toNatClampNeg) = (s 28 ((s 21 (((20 : Int32) * p2)).toNatClampNeg)).toNatClampNeg) then
              some (1 : Int32)
            else
              some (0 : Int32)
          else
            some (0 : Int32)
      else
        zx_zr v3_4 <| some v3_4)
    10000 (1 : Int32) (0 : Int32)
def zM_ValueBenchModel_classes_L21 (v1 : Int32) (k47 : zx_S → Option zx_S) : Nat → Int32 → zx_S → Option zx_S
  | 0, _, _ => none
  | n + 1, v2, s =>
    if v2 < (0 : Int32) then
      k47 s
    else
      zx_b1 (zM_ValueBenchModel_isOneSort v2 v1 s) fun r3 =>
      if r3 = (0 : Int32) then
        zx_lt (v2 + (-1 : Int32)) fun v2_6 =>
        (zM_ValueBenchModel_classes_L21 v1 k47 n) v2_6 s
      else
        zx_ck v1 270 <|
        zx_ls (zx_su s 28 (v1).toNatClampNeg v2) fun s4 =>
        zx_lt (v2 + (-1 : Int32)) fun v2_5 =>
        (zM_ValueBenchModel_classes_L21 v1 k47 n) v2_5 s4
def zM_ValueBenchModel_classes_L2 (k53 : zx_S → Option zx_S) : Nat → Int32 → zx_S → Option zx_S
  | 0, _, _ => none
  | n + 1, v1, s =>
    if (s 0 18) ≤ v1 then
      k53 s
    else
      zx_ck v1 270 <|
      zx_ls (zx_su s 28 (v1).toNatClampNeg v1) fun s1 =>
      zx_lt (v1 - (1 : Int32)) fun v2_2 =>
      zM_ValueBenchModel_classes_L21 v1
        (fun s7 =>
          zx_lt (v1 + (1 : Int32)) fun v1_8 =>
          (zM_ValueBenchModel_classes_L2 k53 n) v1_8 s7)
        10000 v2_2 s1
def zM_ValueBenchModel_classes_L82 (v1 v2 : Int32) (k123 : zx_S → Option zx_S) : Nat → Int32 → zx_S → Option zx_S
  | 0, _, _ => none
  | n + 1, v3, s =>
    if v3 < (0 : Int32) then
      k123 s
    else
      zx_ck v3 270 <|
      zx_ck v2 270 <|
      if (s 28 (v3).toNatClampNeg) = (s 28 (v2).toNatClampNeg) then
        zx_b1 (zM_ValueBenchModel_hangTogether v3 v2 s) fun r12 =>
        if r12 = (0 : Int32) then
          zx_lt (v3 + (-1 : Int32)) fun v3_15 =>
          (zM_ValueBenchModel_classes_L82 v1 v2 k123 n) v3_15 s
        else
          zx_ck v2 270 <|
          zx_ls (zx_su s 29 (v2).toNatClampNeg v3) fun s13 =>
          zx_lt (v3 + (-1 : Int32)) fun v3_14 =>
          (zM_ValueBenchModel_classes_L82 v1 v2 k123 n) v3_14 s13
      else
        zx_lt (v3 + (-1 : Int32)) fun v3_16 =>
        (zM_ValueBenchModel_classes_L82 v1 v2 k123 n) v3_16 s
def zM_ValueBenchModel_classes_L63 (v1 : Int32) (k129 : zx_S → Option zx_S) : Nat → Int32 → zx_S → Option zx_S
  | 0, _, _ => none
  | n + 1, v2, s =>
    if (s 0 18) ≤ v2 then
      k129 s
    else
      zx_ck v2 270 <|
      zx_ls (zx_su s 29 (v2).toNatClampNeg v2) fun s10 =>
      zx_lt (v2 - (1 : Int32)) fun v3_11 =>
      zM_ValueBenchModel_classes_L82 v1 v2
        (fun s17 =>
          zx_lt (v2 + (1 : Int32)) fun v2_18 =>
          (zM_ValueBenchModel_classes_L63 v1 k129 n) v2_18 s17)
        10000 v3_11 s10
def zM_ValueBenchModel_classes_J163 (k131 : Int32 → Int32 → zx_S → Option zx_S) (v2 t0 : Int32) (s : zx_S) : Option zx_S :=
  zx_ck v2 270 <|
  zx_lt (s 29 (v2).toNatClampNeg) fun x20 =>
  zx_ck v2 270 <|
  zx_ls (zx_su s 28 (v2).toNatClampNeg x20) fun s21 =>
  zx_lt (v2 + (1 : Int32)) fun v2_22 =>
  k131 t0 v2_22 s21
def zM_ValueBenchModel_classes_L131 (k182 : Int32 → zx_S → Option zx_S) : Nat → Int32 → Int32 → zx_S → Option zx_S
  | 0, _, _, _ => none
  | n + 1, v1, v2, s =>
    if (s 0 18) ≤ v2 then
      k182 v1 s
    else
      if v1 = (0 : Int32) then
        zx_ck v2 270 <|
        zx_ck v2 270 <|
        if (s 29 (v2).toNatClampNeg) = (s 28 (v2).toNatClampNeg) then
          (zM_ValueBenchModel_classes_J163 (zM_ValueBenchModel_classes_L131 k182 n)) v2 (0 : Int32) s
        else
          (zM_ValueBenchModel_classes_J163 (zM_ValueBenchModel_classes_L131 k182 n)) v2 (1 : Int32) s
      else
        (zM_ValueBenchModel_classes_J163 (zM_ValueBenchModel_classes_L131 k182 n)) v2 (1 : Int32) s
def zM_ValueBenchModel_classes_L55 (k185 : zx_S → Option zx_S) : Nat → Int32 → zx_S → Option zx_S
  | 0, _, _ => none
  | n + 1, v1, s =>
    if v1 = (0 : Int32) then
      k185 s
    else
      zM_ValueBenchModel_classes_L63 (0 : Int32)
        (fun s19 =>
          zM_ValueBenchModel_classes_L131
            (fun v1_23 s24 =>
              (zM_ValueBenchModel_classes_L55 k185 n) v1_23 s24)
            10000 (0 : Int32) (0 : Int32) s19)
        10000 (0 : Int32) s
def zM_ValueBenchModel_classes (s : zx_S) : Option zx_S :=
  zM_ValueBenchModel_classes_L2
    (fun s9 =>
      zM_ValueBenchModel_classes_L55
        (fun s25 =>
          some s25)
        10000 (1 : Int32) s9)
    10000 (0 : Int32) s
def zM_ValueBenchModel_isAhead (p1 p2 p3 : Int32) (s : zx_S) : Option Int32 :=
  zx_ck p1 270 <|
  if (s 17 (p1).toNatClampNeg) = p2 then
    zx_ck p1 270 <|
    if p3 ≤ (s 20 (p1).toNatClampNeg) then
      some (0 : Int32)
    else
      some (1 : Int32)
  else
    zx_ck p1 270 <|
    zx_b1 (zM_ValueBenchModel_dominates1 (s 17 (p1).toNatClampNeg) p2 s) fun r1 =>
    zx_zr r1 <| some r1
def zM_ValueBenchModel_redundant_J97 (k19 : Int32 → zx_S → Option zx_S) (v1 v2 t0 : Int32) (s : zx_S) : Option zx_S :=
  zx_ck v1 270 <|
  if (s 30 (v1).toNatClampNeg) = (0 : Int32) then
    if t0 = (0 : Int32) then
      zx_ck v1 270 <|
      zx_ck v1 270 <|
      zx_b1 (zM_ValueBenchModel_isAhead v2 (s 17 (v1).toNatClampNeg) (s 20 (v1).toNatClampNeg) s) fun r3 =>
      if r3 = (0 : Int32) then
        zx_ck v1 270 <|
        zx_ls (zx_su s 30 (v1).toNatClampNeg (vp_nar .boolean (0 : Int32))) fun s6 =>
        zx_lt (v2 + (1 : Int32)) fun v2_7 =>
        k19 v2_7 s6
      else
        zx_ck v1 270 <|
        zx_ls (zx_su s 30 (v1).toNatClampNeg (vp_nar .boolean (1 : Int32))) fun s4 =>
        zx_lt (v2 + (1 : Int32)) fun v2_5 =>
        k19 v2_5 s4
    else
      zx_ck v1 270 <|
      zx_ls (zx_su s 30 (v1).toNatClampNeg (vp_nar .boolean (1 : Int32))) fun s8 =>
      zx_lt (v2 + (1 : Int32)) fun v2_9 =>
      k19 v2_9 s8
  else
    zx_ck v1 270 <|
    zx_ls (zx_su s 30 (v1).toNatClampNeg (vp_nar .boolean (1 : Int32))) fun s10 =>
    zx_lt (v2 + (1 : Int32)) fun v2_11 =>
    k19 v2_11 s10
def zM_ValueBenchModel_redundant_L19 (v1 : Int32) (k148 : zx_S → Option zx_S) : Nat → Int32 → zx_S → Option zx_S
  | 0, _, _ => none
  | n + 1, v2, s =>
    if (s 0 18) ≤ v2 then
      k148 s
    else
      if v2 = v1 then
        zx_lt (v2 + (1 : Int32)) fun v2_12 =>
        (zM_ValueBenchModel_redundant_L19 v1 k148 n) v2_12 s
      else
        zx_ck v2 270 <|
        zx_ck v1 270 <|
        if (s 28 (v2).toNatClampNeg) = (s 28 (v1).toNatClampNeg) then
          zx_ck v2 270 <|
          if (s 16 (v2).toNatClampNeg) = (15 : Int32) then
            zx_ck v1 270 <|
            if (s 16 (v1).toNatClampNeg) = (15 : Int32) then
              zx_ck v2 270 <|
              zx_ck v1 270 <|
              if (s 17 (v2).toNatClampNeg) = (s 17 (v1).toNatClampNeg) then
                if v1 ≤ v2 then
                  (zM_ValueBenchModel_redundant_J97 (zM_ValueBenchModel_redundant_L19 v1 k148 n)) v1 v2 (0 : Int32) s
                else
                  (zM_ValueBenchModel_redundant_J97 (zM_ValueBenchModel_redundant_L19 v1 k148 n)) v1 v2 (1 : Int32) s
              else
                (zM_ValueBenchModel_redundant_J97 (zM_ValueBenchModel_redundant_L19 v1 k148 n)) v1 v2 (0 : Int32) s
            else
              (zM_ValueBenchModel_redundant_J97 (zM_ValueBenchModel_redundant_L19 v1 k148 n)) v1 v2 (0 : Int32) s
          else
            (zM_ValueBenchModel_redundant_J97 (zM_ValueBenchModel_redundant_L19 v1 k148 n)) v1 v2 (0 : Int32) s
        else
          zx_lt (v2 + (1 : Int32)) fun v2_2 =>
          (zM_ValueBenchModel_redundant_L19 v1 k148 n) v2_2 s
def zM_ValueBenchModel_redundant_L2 (k154 : zx_S → Option zx_S) : Nat → Int32 → zx_S → Option zx_S
  | 0, _, _ => none
  | n + 1, v1, s =>
    if (s 0 18) ≤ v1 then
      k154 s
    else
      zx_ck v1 270 <|
      zx_ls (zx_su s 30 (v1).toNatClampNeg (vp_nar .boolean (0 : Int32))) fun s1 =>
      zM_ValueBenchModel_redundant_L19 v1
        (fun s13 =>
          zx_lt (v1 + (1 : Int32)) fun v1_14 =>
          (zM_ValueBenchModel_redundant_L2 k154 n) v1_14 s13)
        10000 (0 : Int32) s1
def zM_ValueBenchModel_redundant (s : zx_S) : Option zx_S :=
  zM_ValueBenchModel_redundant_L2
    (fun s15 =>
      some s15)
    10000 (0 : Int32) s
def zM_ValueBenchModel_make (s : zx_S) : Option zx_S :=
  if (s 0 11) = (0 : Int32) then
    zx_ls (zx_su s 0 11 (1 : Int32)) fun s1 =>
    zx_b1 (zM_ValueBenchModel_dominance s1) fun s2 =>
    zx_b1 (zM_ValueBenchModel_choices s2) fun s3 =>
    zx_b1 (zM_ValueBenchModel_numbers s3) fun s4 =>
    zx_b1 (zM_ValueBenchModel_names s4) fun s5 =>
    zx_b1 (zM_ValueBenchModel_classes s5) fun s6 =>
    zx_b1 (zM_ValueBenchModel_redundant s6) fun s7 =>
    some s7
  else
    some s
def zM_ValueBenchModel_costs (p1 p2 p3 : Int32) (s : zx_S) : Option Int32 :=
  zx_lt (((100 : Int32) * p2) + p3) fun v4_1 =>
  if p1 = (0 : Int32) then
    some (1 : Int32)
  else
    zx_ck v4_1 1600 <|
    if (s 1 (v4_1).toNatClampNeg) = (2 : Int32) then
      some (0 : Int32)
    else
      if p1 = (1 : Int32) then
        some (1 : Int32)
      else
        zx_ck v4_1 1600 <|
        if (s 1 (v4_1).toNatClampNeg) = (14 : Int32) then
          some (1 : Int32)
        else
          zx_ck v4_1 1600 <|
          zx_ck (s 24 (v4_1).toNatClampNeg) 270 <|
          if (s 30 ((s 24 (v4_1).toNatClampNeg)).toNatClampNeg) = (0 : Int32) then
            some (1 : Int32)
          else
            some (0 : Int32)
def zM_ValueBenchModel_takes (s : zx_S) : Option (Int32 × zx_S) :=
  if (s 0 36) = (s 0 34) then
    some ((0 : Int32), s)
  else
    zx_lt ((s 0 36) + (1 : Int32)) fun x1 =>
    zx_ls (zx_su s 0 36 x1) fun s2 =>
    some ((1 : Int32), s2)
def zM_ValueBenchModel_emit (p1 : Int32) (s : zx_S) : Option zx_S :=
  if (60 : Int32) ≤ (s 0 37) then
    zx_lt ((s 0 37) + (1 : Int32)) fun x4 =>
    zx_ls (zx_su s 0 37 x4) fun s5 =>
    some s5
  else
    zx_ck (s 0 37) 60 <|
    zx_ls (zx_su s 31 ((s 0 37)).toNatClampNeg p1) fun s1 =>
    zx_lt ((s1 0 37) + (1 : Int32)) fun x2 =>
    zx_ls (zx_su s1 0 37 x2) fun s3 =>
    some s3
def zM_ValueBenchModel_work (p0 p1 p2 : Int32) (s : zx_S) : Option Int32 :=
  if p0 = (3 : Int32) then
    some (p1 + p2)
  else
    if p0 = (4 : Int32) then
      some (p1 - p2)
    else
      if p0 = (5 : Int32) then
        some (p1 * p2)
      else
        if p0 = (6 : Int32) then
          some (p1 &&& p2)
        else
          if p0 = (7 : Int32) then
            some (p1 ||| p2)
          else
            if p0 = (8 : Int32) then
              some (p1 ^^^ p2)
            else
              if p0 = (9 : Int32) then
                if p1 = p2 then
                  some (1 : Int32)
                else
                  some (0 : Int32)
              else
                if p0 = (10 : Int32) then
                  if p2 ≤ p1 then
                    some (0 : Int32)
                  else
                    some (1 : Int32)
                else
                  if p0 = (11 : Int32) then
                    some (p1 <<< ((p2 &&& (31 : Int32)) &&& 31))
                  else
                    if p0 = (12 : Int32) then
                      some (p1 >>> ((p2 &&& (31 : Int32)) &&& 31))
                    else
                      if p2 = (0 : Int32) then
                        some (0 : Int32)
                      else
                        zx_ne p2 <|
                        some (p1 / p2)
def zM_ValueBenchModel_readAt_L3 (v1 v2 v3 : Int32) (k35 : zx_S → Option (Int32 × zx_S)) : Nat → Int32 → zx_S → Option (Int32 × zx_S)
  | 0, _, _ => none
  | n + 1, v4, s =>
    if (10 : Int32) ≤ v4 then
      k35 s
    else
      zx_ck (((10 : Int32) * v1) + v4) 160 <|
      zx_lt (s 25 ((((10 : Int32) * v1) + v4)).toNatClampNeg) fun x1 =>
      zx_ck v4 10 <|
      zx_ls (zx_su s 27 (v4).toNatClampNeg x1) fun s2 =>
      zx_lt (v4 + (1 : Int32)) fun v4_3 =>
      (zM_ValueBenchModel_readAt_L3 v1 v2 v3 k35 n) v4_3 s2
def zM_ValueBenchModel_readAt (p1 p2 p3 : Int32) (s : zx_S) : Option (Int32 × zx_S) :=
  zM_ValueBenchModel_readAt_L3 p1 p2 p3
    (fun s4 =>
      zx_b1 (zM_ValueBenchModel_through p1 p2 (0 : Int32) s4) fun s5 =>
      zx_ck p3 10 <|
      some ((s5 27 (p3).toNatClampNeg), s5))
    10000 (0 : Int32) s
def zM_ValueBenchModel_leader_L3 (v1 v2 v3 : Int32) (s : zx_S) (k49 : Int32 → Option Int32) : Nat → Int32 → Option Int32
  | 0, _ => none
  | n + 1, v4 =>
    if (s 0 18) ≤ v4 then
      some (-1 : Int32)
    else
      zx_ck v4 270 <|
      zx_ck v1 270 <|
      if (s 28 (v4).toNatClampNeg) = (s 28 (v1).toNatClampNeg) then
        zx_ck v4 270 <|
        if (s 30 (v4).toNatClampNeg) = (0 : Int32) then
          zx_b1 (zM_ValueBenchModel_isAhead v4 v2 v3 s) fun r1 =>
          if r1 = (0 : Int32) then
            zx_lt (v4 + (1 : Int32)) fun v4_2 =>
            (zM_ValueBenchModel_leader_L3 v1 v2 v3 s k49 n) v4_2
          else
            k49 v4
        else
          zx_lt (v4 + (1 : Int32)) fun v4_3 =>
          (zM_ValueBenchModel_leader_L3 v1 v2 v3 s k49 n) v4_3
      else
        zx_lt (v4 + (1 : Int32)) fun v4_4 =>
        (zM_ValueBenchModel_leader_L3 v1 v2 v3 s k49 n) v4_4
def zM_ValueBenchModel_leader (p1 p2 p3 : Int32) (s : zx_S) : Option Int32 :=
  zM_ValueBenchModel_leader_L3 p1 p2 p3 s
    (fun v4_5 =>
      some v4_5)
    10000 (0 : Int32)
def zM_ValueBenchModel_predecessorAt_L5 (v1 v2 : Int32) (s : zx_S) (k46 : Int32 → Option Int32) : Nat → Int32 → Int32 → Option Int32
  | 0, _, _ => none
  | n + 1, v3, v4 =>
    if (s 0 0) ≤ v4 then
      some (-1 : Int32)
    else
      if v2 < (0 : Int32) then
        some (-1 : Int32)
      else
        zx_ck v4 16 <|
        if (s 10 (v4).toNatClampNeg) = (0 : Int32) then
          zx_lt (v4 + (1 : Int32)) fun v4_5 =>
          (zM_ValueBenchModel_predecessorAt_L5 v1 v2 s k46 n) v3 v4_5
        else
          zx_b1 (zM_ValueBenchModel_leads v4 v1 s) fun r1 =>
          if r1 = (0 : Int32) then
            zx_lt (v4 + (1 : Int32)) fun v4_2 =>
            (zM_ValueBenchModel_predecessorAt_L5 v1 v2 s k46 n) v3 v4_2
          else
            if v3 = v2 then
              k46 v4
            else
              zx_lt (v3 + (1 : Int32)) fun v3_3 =>
              zx_lt (v4 + (1 : Int32)) fun v4_4 =>
              (zM_ValueBenchModel_predecessorAt_L5 v1 v2 s k46 n) v3_3 v4_4
def zM_ValueBenchModel_predecessorAt (p1 p2 : Int32) (s : zx_S) : Option Int32 :=
  zM_ValueBenchModel_predecessorAt_L5 p1 p2 s
    (fun v4_6 =>
      some v4_6)
    10000 (0 : Int32) (0 : Int32)
def zM_ValueBenchModel_ledOperand (p1 p2 : Int32) (s : zx_S) : Option Int32 :=
  zx_ck (((20 : Int32) * p1) + p2) 5400 <|
  zx_lt (s 21 ((((20 : Int32) * p1) + p2)).toNatClampNeg) fun v3_1 =>
  zx_ck p1 270 <|
  if (s 16 (p1).toNatClampNeg) = (15 : Int32) then
    zx_ck p1 270 <|
    zx_lt (s 17 (p1).toNatClampNeg) fun v4_3 =>
    zx_b1 (zM_ValueBenchModel_predecessorAt v4_3 p2 s) fun r4 =>
    if (0 : Int32) ≤ r4 then
      zx_ck r4 16 <|
      zx_b1 (zM_ValueBenchModel_leader v3_1 r4 (s 5 (r4).toNatClampNeg) s) fun r5 =>
      some r5
    else
      some (0 : Int32)
  else
    zx_ck p1 270 <|
    zx_ck p1 270 <|
    zx_b1 (zM_ValueBenchModel_leader v3_1 (s 17 (p1).toNatClampNeg) (s 20 (p1).toNatClampNeg) s) fun r2 =>
    some r2
def zM_ValueBenchModel_acts_J331 (v4 v5 v6 t0 : Int32) (s : zx_S) : Option zx_S :=
  zx_ck v4 1600 <|
  zx_ck v6 270 <|
  zx_ck t0 270 <|
  zx_b1 (zM_ValueBenchModel_work (s 1 (v4).toNatClampNeg) (s 33 (v6).toNatClampNeg) (s 33 (t0).toNatClampNeg) s) fun r21 =>
  zx_ck v5 270 <|
  zx_ls (zx_su s 33 (v5).toNatClampNeg r21) fun s22 =>
  some s22
def zM_ValueBenchModel_acts_J302 (v1 v4 v5 t0 : Int32) (s : zx_S) : Option zx_S :=
  if v1 = (1 : Int32) then
    zx_ck (((20 : Int32) * v5) + (1 : Int32)) 5400 <|
    (zM_ValueBenchModel_acts_J331) v4 v5 t0 (s 21 ((((20 : Int32) * v5) + (1 : Int32))).toNatClampNeg) s
  else
    zx_b1 (zM_ValueBenchModel_ledOperand v5 (1 : Int32) s) fun r23 =>
    (zM_ValueBenchModel_acts_J331) v4 v5 t0 r23 s
def zM_ValueBenchModel_acts (p1 p2 p3 : Int32) (s : zx_S) : Option zx_S :=
  zx_lt (((100 : Int32) * p2) + p3) fun v4_1 =>
  if p1 = (0 : Int32) then
    zx_ck v4_1 1600 <|
    if (s 1 (v4_1).toNatClampNeg) = (14 : Int32) then
      zx_ck v4_1 1600 <|
      zx_ck (s 2 (v4_1).toNatClampNeg) 10 <|
      zx_b1 (zM_ValueBenchModel_emit (s 32 ((s 2 (v4_1).toNatClampNeg)).toNatClampNeg) s) fun s2 =>
      some s2
    else
      zx_ck v4_1 1600 <|
      zx_ck v4_1 1600 <|
      if (s 1 (v4_1).toNatClampNeg) = (0 : Int32) then
        zx_ck v4_1 1600 <|
        zx_lt (s 3 (v4_1).toNatClampNeg) fun x3 =>
        zx_ck (s 2 (v4_1).toNatClampNeg) 10 <|
        zx_ls (zx_su s 32 ((s 2 (v4_1).toNatClampNeg)).toNatClampNeg x3) fun s4 =>
        some s4
      else
        zx_ck v4_1 1600 <|
        if (s 1 (v4_1).toNatClampNeg) = (1 : Int32) then
          zx_ck v4_1 1600 <|
          zx_ck (s 3 (v4_1).toNatClampNeg) 4 <|
          zx_lt (s 35 ((s 3 (v4_1).toNatClampNeg)).toNatClampNeg) fun x5 =>
          zx_ck (s 2 (v4_1).toNatClampNeg) 10 <|
          zx_ls (zx_su s 32 ((s 2 (v4_1).toNatClampNeg)).toNatClampNeg x5) fun s6 =>
          some s6
        else
          zx_ck v4_1 1600 <|
          if (s 1 (v4_1).toNatClampNeg) = (2 : Int32) then
            zx_ck v4_1 1600 <|
            zx_ck (s 3 (v4_1).toNatClampNeg) 10 <|
            zx_lt (s 32 ((s 3 (v4_1).toNatClampNeg)).toNatClampNeg) fun x7 =>
            zx_ck (s 2 (v4_1).toNatClampNeg) 10 <|
            zx_ls (zx_su s 32 ((s 2 (v4_1).toNatClampNeg)).toNatClampNeg x7) fun s8 =>
            some s8
          else
            zx_ck v4_1 1600 <|
            zx_ck v4_1 1600 <|
            zx_ck (s 3 (v4_1).toNatClampNeg) 10 <|
            zx_ck v4_1 1600 <|
            zx_ck (s 4 (v4_1).toNatClampNeg) 10 <|
            zx_b1 (zM_ValueBenchModel_work (s 1 (v4_1).toNatClampNeg) (s 32 ((s 3 (v4_1).toNatClampNeg)).toNatClampNeg) (s 32 ((s 4 (v4_1).toNatClampNeg)).toNatClampNeg) s) fun r9 =>
            zx_ck (s 2 (v4_1).toNatClampNeg) 10 <|
            zx_ls (zx_su s 32 ((s 2 (v4_1).toNatClampNeg)).toNatClampNeg r9) fun s10 =>
            some s10
  else
    zx_ck v4_1 1600 <|
    if (s 1 (v4_1).toNatClampNeg) = (14 : Int32) then
      zx_ck v4_1 1600 <|
      zx_b2 (zM_ValueBenchModel_readAt p2 p3 (s 2 (v4_1).toNatClampNeg) s) fun r11 s12 =>
      if p1 = (1 : Int32) then
        zx_ck r11 270 <|
        zx_b1 (zM_ValueBenchModel_emit (s12 33 (r11).toNatClampNeg) s12) fun s13 =>
        some s13
      else
        zx_b1 (zM_ValueBenchModel_leader r11 p2 p3 s12) fun r14 =>
        zx_ck r14 270 <|
        zx_b1 (zM_ValueBenchModel_emit (s12 33 (r14).toNatClampNeg) s12) fun s15 =>
        some s15
    else
      zx_ck v4_1 1600 <|
      zx_lt (s 24 (v4_1).toNatClampNeg) fun v5_16 =>
      zx_ck v4_1 1600 <|
      if (2 : Int32) ≤ (s 1 (v4_1).toNatClampNeg) then
        if p1 = (1 : Int32) then
          zx_ck ((20 : Int32) * v5_16) 5400 <|
          (zM_ValueBenchModel_acts_J302) p1 v4_1 v5_16 (s 21 (((20 : Int32) * v5_16)).toNatClampNeg) s
        else
          zx_b1 (zM_ValueBenchModel_ledOperand v5_16 (0 : Int32) s) fun r24 =>
          (zM_ValueBenchModel_acts_J302) p1 v4_1 v5_16 r24 s
      else
        zx_ck v4_1 1600 <|
        if (s 1 (v4_1).toNatClampNeg) = (0 : Int32) then
          zx_ck v4_1 1600 <|
          zx_lt (s 3 (v4_1).toNatClampNeg) fun x17 =>
          zx_ck v5_16 270 <|
          zx_ls (zx_su s 33 (v5_16).toNatClampNeg x17) fun s18 =>
          some s18
        else
          zx_ck v4_1 1600 <|
          zx_ck (s 3 (v4_1).toNatClampNeg) 4 <|
          zx_lt (s 35 ((s 3 (v4_1).toNatClampNeg)).toNatClampNeg) fun x19 =>
          zx_ck v5_16 270 <|
          zx_ls (zx_su s 33 (v5_16).toNatClampNeg x19) fun s20 =>
          some s20
def zM_ValueBenchModel_yOf (p1 : Int32) (s : zx_S) : Option Int32 :=
  zx_b1 (zM_ValueBenchModel_howOf p1 s) fun r1 =>
  zx_ck p1 16 <|
  if r1 = (s 6 (p1).toNatClampNeg) then
    zx_ck p1 16 <|
    some (s 7 (p1).toNatClampNeg)
  else
    some (0 : Int32)
def zM_ValueBenchModel_reads (p1 p2 : Int32) (s : zx_S) : Option Int32 :=
  zx_b1 (zM_ValueBenchModel_yOf p1 s) fun r1 =>
  zx_ck (((10 : Int32) * p1) + r1) 160 <|
  zx_lt (s 26 ((((10 : Int32) * p1) + r1)).toNatClampNeg) fun v3_2 =>
  if p2 = (0 : Int32) then
    some v3_2
  else
    zx_ck p1 16 <|
    zx_b1 (zM_ValueBenchModel_leader v3_2 p1 (s 5 (p1).toNatClampNeg) s) fun r3 =>
    some r3
def zM_ValueBenchModel_chooses_J102 (k10 : Int32 → zx_S → Option zx_S) (v1 v2 v3 v4 v5 v6 : Int32) (s : zx_S) : Option zx_S :=
  if v1 = (1 : Int32) then
    zx_ck (((20 : Int32) * v5) + v6) 5400 <|
    zx_ck (s 21 ((((20 : Int32) * v5) + v6)).toNatClampNeg) 270 <|
    zx_lt (s 33 ((s 21 ((((20 : Int32) * v5) + v6)).toNatClampNeg)).toNatClampNeg) fun x6 =>
    zx_ck v5 270 <|
    zx_ls (zx_su s 34 (v5).toNatClampNeg x6) fun s7 =>
    zx_lt (v4 + (1 : Int32)) fun v4_8 =>
    k10 v4_8 s7
  else
    zx_b1 (zM_ValueBenchModel_ledOperand v5 v6 s) fun r9 =>
    zx_ck r9 270 <|
    zx_lt (s 33 (r9).toNatClampNeg) fun x10 =>
    zx_ck v5 270 <|
    zx_ls (zx_su s 34 (v5).toNatClampNeg x10) fun s11 =>
    zx_lt (v4 + (1 : Int32)) fun v4_12 =>
    k10 v4_12 s11
def zM_ValueBenchModel_chooses_L85 (v1 v2 v3 v4 v5 : Int32) (s : zx_S) (k102 : Int32 → Option zx_S) : Nat → Int32 → Option zx_S
  | 0, _ => none
  | n + 1, v6 =>
    zx_b1 (zM_ValueBenchModel_predecessorAt v2 v6 s) fun r13 =>
    if r13 = v3 then
      k102 v6
    else
      zx_lt (v6 + (1 : Int32)) fun v6_14 =>
      (zM_ValueBenchModel_chooses_L85 v1 v2 v3 v4 v5 s k102 n) v6_14
def zM_ValueBenchModel_chooses_J102b (k10 : Int32 → zx_S → Option zx_S) (v1 v2 v3 v4 v5 v6 : Int32) (s : zx_S) : Option zx_S :=
  if v1 = (1 : Int32) then
    zx_ck (((20 : Int32) * v5) + v6) 5400 <|
    zx_ck (s 21 ((((20 : Int32) * v5) + v6)).toNatClampNeg) 270 <|
    zx_lt (s 33 ((s 21 ((((20 : Int32) * v5) + v6)).toNatClampNeg)).toNatClampNeg) fun x17 =>
    zx_ck v5 270 <|
    zx_ls (zx_su s 34 (v5).toNatClampNeg x17) fun s18 =>
    zx_lt (v4 + (1 : Int32)) fun v4_19 =>
    k10 v4_19 s18
  else
    zx_b1 (zM_ValueBenchModel_ledOperand v5 v6 s) fun r20 =>
    zx_ck r20 270 <|
    zx_lt (s 33 (r20).toNatClampNeg) fun x21 =>
    zx_ck v5 270 <|
    zx_ls (zx_su s 34 (v5).toNatClampNeg x21) fun s22 =>
    zx_lt (v4 + (1 : Int32)) fun v4_23 =>
    k10 v4_23 s22
def zM_ValueBenchModel_chooses_L85b (v1 v2 v3 v4 v5 : Int32) (s : zx_S) (k102 : Int32 → Option zx_S) : Nat → Int32 → Option zx_S
  | 0, _ => none
  | n + 1, v6 =>
    zx_b1 (zM_ValueBenchModel_predecessorAt v2 v6 s) fun r24 =>
    if r24 = v3 then
      k102 v6
    else
      zx_lt (v6 + (1 : Int32)) fun v6_25 =>
      (zM_ValueBenchModel_chooses_L85b v1 v2 v3 v4 v5 s k102 n) v6_25
def zM_ValueBenchModel_chooses_L10 (v1 v2 v3 : Int32) (k149 : zx_S → Option zx_S) : Nat → Int32 → zx_S → Option zx_S
  | 0, _, _ => none
  | n + 1, v4, s =>
    if (10 : Int32) ≤ v4 then
      k149 s
    else
      zx_ck (((10 : Int32) * v2) + v4) 160 <|
      if (s 15 ((((10 : Int32) * v2) + v4)).toNatClampNeg) = (0 : Int32) then
        zx_lt (v4 + (1 : Int32)) fun v4_2 =>
        (zM_ValueBenchModel_chooses_L10 v1 v2 v3 k149 n) v4_2 s
      else
        zx_ck (((10 : Int32) * v2) + v4) 160 <|
        zx_lt (s 23 ((((10 : Int32) * v2) + v4)).toNatClampNeg) fun v5_3 =>
        if v1 = (2 : Int32) then
          zx_ck v5_3 270 <|
          if (s 30 (v5_3).toNatClampNeg) = (0 : Int32) then
            zx_ck v5_3 270 <|
            zx_lt ((s 22 (v5_3).toNatClampNeg) - (1 : Int32)) fun v6_5 =>
            if v3 < (0 : Int32) then
              (zM_ValueBenchModel_chooses_J102 (zM_ValueBenchModel_chooses_L10 v1 v2 v3 k149 n)) v1 v2 v3 v4 v5_3 v6_5 s
            else
              zM_ValueBenchModel_chooses_L85 v1 v2 v3 v4 v5_3 s
                (fun v6_15 =>
                  (zM_ValueBenchModel_chooses_J102 (zM_ValueBenchModel_chooses_L10 v1 v2 v3 k149 n)) v1 v2 v3 v4 v5_3 v6_15 s)
                10000 (0 : Int32)
          else
            zx_lt (v4 + (1 : Int32)) fun v4_4 =>
            (zM_ValueBenchModel_chooses_L10 v1 v2 v3 k149 n) v4_4 s
        else
          zx_ck v5_3 270 <|
          zx_lt ((s 22 (v5_3).toNatClampNeg) - (1 : Int32)) fun v6_16 =>
          if v3 < (0 : Int32) then
            (zM_ValueBenchModel_chooses_J102b (zM_ValueBenchModel_chooses_L10 v1 v2 v3 k149 n)) v1 v2 v3 v4 v5_3 v6_16 s
          else
            zM_ValueBenchModel_chooses_L85b v1 v2 v3 v4 v5_3 s
              (fun v6_26 =>
                (zM_ValueBenchModel_chooses_J102b (zM_ValueBenchModel_chooses_L10 v1 v2 v3 k149 n)) v1 v2 v3 v4 v5_3 v6_26 s)
              10000 (0 : Int32)
def zM_ValueBenchModel_chooses_L152 (v1 v2 : Int32) (k226 : zx_S → Option zx_S) : Nat → Int32 → zx_S → Option zx_S
  | 0, _, _ => none
  | n + 1, v4, s =>
    if (10 : Int32) ≤ v4 then
      k226 s
    else
      zx_ck (((10 : Int32) * v2) + v4) 160 <|
      if (s 15 ((((10 : Int32) * v2) + v4)).toNatClampNeg) = (0 : Int32) then
        zx_lt (v4 + (1 : Int32)) fun v4_28 =>
        (zM_ValueBenchModel_chooses_L152 v1 v2 k226 n) v4_28 s
      else
        zx_ck (((10 : Int32) * v2) + v4) 160 <|
        zx_lt (s 23 ((((10 : Int32) * v2) + v4)).toNatClampNeg) fun v5_29 =>
        if v1 = (1 : Int32) then
          zx_ck v5_29 270 <|
          zx_lt (s 34 (v5_29).toNatClampNeg) fun x34 =>
          zx_ck v5_29 270 <|
          zx_ls (zx_su s 33 (v5_29).toNatClampNeg x34) fun s35 =>
          zx_lt (v4 + (1 : Int32)) fun v4_36 =>
          (zM_ValueBenchModel_chooses_L152 v1 v2 k226 n) v4_36 s35
        else
          zx_ck v5_29 270 <|
          if (s 30 (v5_29).toNatClampNeg) = (0 : Int32) then
            zx_ck v5_29 270 <|
            zx_lt (s 34 (v5_29).toNatClampNeg) fun x30 =>
            zx_ck v5_29 270 <|
            zx_ls (zx_su s 33 (v5_29).toNatClampNeg x30) fun s31 =>
            zx_lt (v4 + (1 : Int32)) fun v4_32 =>
            (zM_ValueBenchModel_chooses_L152 v1 v2 k226 n) v4_32 s31
          else
            zx_lt (v4 + (1 : Int32)) fun v4_33 =>
            (zM_ValueBenchModel_chooses_L152 v1 v2 k226 n) v4_33 s
def zM_ValueBenchModel_chooses (p1 p2 p3 : Int32) (s : zx_S) : Option zx_S :=
  zx_ck (0 : Int32) 270 <|
  zx_ls (zx_su s 33 ((0 : Int32)).toNatClampNeg (0 : Int32)) fun s1 =>
  zM_ValueBenchModel_chooses_L10 p1 p2 p3
    (fun s27 =>
      zM_ValueBenchModel_chooses_L152 p1 p2
        (fun s37 =>
          some s37)
        10000 (0 : Int32) s27)
    10000 (0 : Int32) s1
def zM_ValueBenchModel_run_L70 (v1 : Int32) (k91 : zx_S → Option (Int32 × zx_S)) : Nat → Int32 → zx_S → Option (Int32 × zx_S)
  | 0, _, _ => none
  | n + 1, v6, s =>
    if (10 : Int32) ≤ v6 then
      k91 s
    else
      zx_ck v6 10 <|
      zx_ls (zx_su s 32 (v6).toNatClampNeg (0 : Int32)) fun s9 =>
      zx_lt (v6 + (1 : Int32)) fun v6_10 =>
      (zM_ValueBenchModel_run_L70 v1 k91 n) v6_10 s9
def zM_ValueBenchModel_run_L119 (v1 v7 : Int32) (k170 : zx_S → Option (Int32 × zx_S)) : Nat → Int32 → zx_S → Option (Int32 × zx_S)
  | 0, _, _ => none
  | n + 1, v8, s =>
    zx_ck v7 16 <|
    if (s 5 (v7).toNatClampNeg) ≤ v8 then
      k170 s
    else
      zx_b1 (zM_ValueBenchModel_costs v1 v7 v8 s) fun r13 =>
      if r13 = (0 : Int32) then
        zx_lt (v8 + (1 : Int32)) fun v8_14 =>
        (zM_ValueBenchModel_run_L119 v1 v7 k170 n) v8_14 s
      else
        zx_b2 (zM_ValueBenchModel_takes s) fun r15 s16 =>
        if r15 = (0 : Int32) then
          some ((1 : Int32), s16)
        else
          zx_b1 (zM_ValueBenchModel_acts v1 v7 v8 s16) fun s17 =>
          zx_lt (v8 + (1 : Int32)) fun v8_18 =>
          (zM_ValueBenchModel_run_L119 v1 v7 k170 n) v8_18 s17
def zM_ValueBenchModel_run_J248 (k97 : Int32 → Int32 → zx_S → Option (Int32 × zx_S)) (k255 : Int32 → zx_S → Option (Int32 × zx_S)) (v1 v7 v8 t0 : Int32) (s : zx_S) : Option (Int32 × zx_S) :=
  if v8 = (0 : Int32) then
    k255 t0 s
  else
    if t0 = (0 : Int32) then
      zx_ck v7 16 <|
      zx_lt (s 9 (v7).toNatClampNeg) fun v7_25 =>
      k97 v7 v7_25 s
    else
      zx_ck v7 16 <|
      zx_lt (s 8 (v7).toNatClampNeg) fun v7_24 =>
      k97 v7 v7_24 s
def zM_ValueBenchModel_run_J116 (k97 : Int32 → Int32 → zx_S → Option (Int32 × zx_S)) (k255 : Int32 → zx_S → Option (Int32 × zx_S)) (v1 v7 : Int32) (s : zx_S) : Option (Int32 × zx_S) :=
  zM_ValueBenchModel_run_L119 v1 v7
    (fun s19 =>
      zx_b2 (zM_ValueBenchModel_takes s19) fun r20 s21 =>
      if r20 = (0 : Int32) then
        some ((1 : Int32), s21)
      else
        zx_b1 (zM_ValueBenchModel_howOf v7 s21) fun r22 =>
        if r22 = (1 : Int32) then
          zx_ck v7 16 <|
          zx_lt (s21 8 (v7).toNatClampNeg) fun v7_23 =>
          k97 v7 v7_23 s21
        else
          if v1 = (0 : Int32) then
            zx_b1 (zM_ValueBenchModel_yOf v7 s21) fun r26 =>
            zx_ck r26 10 <|
            (zM_ValueBenchModel_run_J248 k97 k255) v1 v7 r22 (s21 32 (r26).toNatClampNeg) s21
          else
            if v1 = (2 : Int32) then
              zx_b1 (zM_ValueBenchModel_reads v7 (1 : Int32) s21) fun r27 =>
              zx_ck r27 270 <|
              (zM_ValueBenchModel_run_J248 k97 k255) v1 v7 r22 (s21 33 (r27).toNatClampNeg) s21
            else
              zx_b1 (zM_ValueBenchModel_reads v7 (0 : Int32) s21) fun r28 =>
              zx_ck r28 270 <|
              (zM_ValueBenchModel_run_J248 k97 k255) v1 v7 r22 (s21 33 (r28).toNatClampNeg) s21)
    10000 (0 : Int32) s
def zM_ValueBenchModel_run_L97 (v1 : Int32) (k255 : Int32 → zx_S → Option (Int32 × zx_S)) : Nat → Int32 → Int32 → zx_S → Option (Int32 × zx_S)
  | 0, _, _, _ => none
  | n + 1, v6, v7, s =>
    zx_ls (zx_su s 0 38 v7) fun s12 =>
    if v1 ≤ (0 : Int32) then
      (zM_ValueBenchModel_run_J116 (zM_ValueBenchModel_run_L97 v1 k255 n) k255) v1 v7 s12
    else
      zx_b1 (zM_ValueBenchModel_chooses v1 v7 v6 s12) fun s29 =>
      (zM_ValueBenchModel_run_J116 (zM_ValueBenchModel_run_L97 v1 k255 n) k255) v1 v7 s29
def zM_ValueBenchModel_run (p1 p2 p3 p4 p5 : Int32) (s : zx_S) : Option (Int32 × zx_S) :=
  if p1 < (0 : Int32) then
    some ((-1 : Int32), s)
  else
    if (2 : Int32) < p1 then
      some ((-1 : Int32), s)
    else
      if (s 0 0) = (0 : Int32) then
        some ((-1 : Int32), s)
      else
        zx_b1 (zM_ValueBenchModel_make s) fun s1 =>
        zx_ck (0 : Int32) 4 <|
        zx_ls (zx_su s1 35 ((0 : Int32)).toNatClampNeg p2) fun s2 =>
        zx_ck (1 : Int32) 4 <|
        zx_ls (zx_su s2 35 ((1 : Int32)).toNatClampNeg p3) fun s3 =>
        zx_ck (2 : Int32) 4 <|
        zx_ls (zx_su s3 35 ((2 : Int32)).toNatClampNeg p4) fun s4 =>
        zx_ck (3 : Int32) 4 <|
        zx_ls (zx_su s4 35 ((3 : Int32)).toNatClampNeg p5) fun s5 =>
        zx_ls (zx_su s5 0 35 (0 : Int32)) fun s6 =>
        zx_ls (zx_su s6 0 36 (0 : Int32)) fun s7 =>
        zx_ls (zx_su s7 0 37 (0 : Int32)) fun s8 =>
        zM_ValueBenchModel_run_L70 p1
          (fun s11 =>
            zM_ValueBenchModel_run_L97 p1
              (fun v9_30 s31 =>
                zx_ls (zx_su s31 0 35 v9_30) fun s32 =>
                some ((0 : Int32), s32))
              10000 (-1 : Int32) (0 : Int32) s11)
          10000 (0 : Int32) s8
def zM_ValueBenchModel_fuel (p1 : Int32) (s : zx_S) : Option (Int32 × zx_S) :=
  if p1 < (1 : Int32) then
    some ((-1 : Int32), s)
  else
    if p1 ≤ (5000 : Int32) then
      zx_lt (s 0 34) fun v2_1 =>
      zx_ls (zx_su s 0 34 p1) fun s2 =>
      some (v2_1, s2)
    else
      some ((-1 : Int32), s)
def zM_ValueBenchModel_ran (p1 : Int32) (s : zx_S) : Option Int32 :=
  if p1 = (0 : Int32) then
    some (s 0 35)
  else
    if p1 = (1 : Int32) then
      some (s 0 36)
    else
      if p1 = (2 : Int32) then
        some (s 0 37)
      else
        if p1 = (3 : Int32) then
          some (s 0 38)
        else
          some (0 : Int32)
def zM_ValueBenchModel_emitted (p1 : Int32) (s : zx_S) : Option Int32 :=
  if p1 < (0 : Int32) then
    some (0 : Int32)
  else
    if (s 0 37) ≤ p1 then
      some (0 : Int32)
    else
      if (60 : Int32) ≤ p1 then
        some (0 : Int32)
      else
        zx_ck p1 60 <|
        some (s 31 (p1).toNatClampNeg)
def zM_ValueBenchModel_about_L172 (v1 : Int32) (s : zx_S) (k210 : Int32 → Option (Int32 × zx_S)) : Nat → Int32 → Int32 → Option (Int32 × zx_S)
  | 0, _, _ => none
  | n + 1, v3, v4 =>
    if (s 0 0) ≤ v4 then
      k210 v3
    else
      zx_ck (((16 : Int32) * v1) + v4) 256 <|
      if (s 14 ((((16 : Int32) * v1) + v4)).toNatClampNeg) = (0 : Int32) then
        zx_lt (v3 + (0 : Int32)) fun v3_6 =>
        zx_lt (v4 + (1 : Int32)) fun v4_7 =>
        (zM_ValueBenchModel_about_L172 v1 s k210 n) v3_6 v4_7
      else
        zx_lt (v3 + (1 : Int32)) fun v3_4 =>
        zx_lt (v4 + (1 : Int32)) fun v4_5 =>
        (zM_ValueBenchModel_about_L172 v1 s k210 n) v3_4 v4_5
def zM_ValueBenchModel_about_L131 (v1 : Int32) (s : zx_S) (k167 : Int32 → Option (Int32 × zx_S)) : Nat → Int32 → Int32 → Option (Int32 × zx_S)
  | 0, _, _ => none
  | n + 1, v3, v4 =>
    if (10 : Int32) ≤ v4 then
      k167 v3
    else
      zx_ck (((10 : Int32) * v1) + v4) 160 <|
      if (s 15 ((((10 : Int32) * v1) + v4)).toNatClampNeg) = (0 : Int32) then
        zx_lt (v3 + (0 : Int32)) fun v3_11 =>
        zx_lt (v4 + (1 : Int32)) fun v4_12 =>
        (zM_ValueBenchModel_about_L131 v1 s k167 n) v3_11 v4_12
      else
        zx_lt (v3 + (1 : Int32)) fun v3_9 =>
        zx_lt (v4 + (1 : Int32)) fun v4_10 =>
        (zM_ValueBenchModel_about_L131 v1 s k167 n) v3_9 v4_10
def zM_ValueBenchModel_about_L111 (v1 : Int32) (s : zx_S) (k126 : Int32 → Option (Int32 × zx_S)) : Nat → Int32 → Option (Int32 × zx_S)
  | 0, _ => none
  | n + 1, v3 =>
    zx_b1 (zM_ValueBenchModel_predecessorAt v1 v3 s) fun r14 =>
    if r14 < (0 : Int32) then
      k126 v3
    else
      zx_lt (v3 + (1 : Int32)) fun v3_15 =>
      (zM_ValueBenchModel_about_L111 v1 s k126 n) v3_15
def zM_ValueBenchModel_about (p1 p2 : Int32) (s : zx_S) : Option (Int32 × zx_S) :=
  zx_b1 (zM_ValueBenchModel_isBlock p1 s) fun r1 =>
  if r1 = (0 : Int32) then
    some ((-1 : Int32), s)
  else
    zx_b1 (zM_ValueBenchModel_make s) fun s2 =>
    if p2 = (0 : Int32) then
      zx_ck p1 16 <|
      if (s2 10 (p1).toNatClampNeg) = (0 : Int32) then
        some ((0 : Int32), s2)
      else
        some ((1 : Int32), s2)
    else
      if p2 = (3 : Int32) then
        zx_ck p1 16 <|
        some ((s2 5 (p1).toNatClampNeg), s2)
      else
        if p2 = (6 : Int32) then
          zx_b1 (zM_ValueBenchModel_howOf p1 s2) fun r3 =>
          some (r3, s2)
        else
          zx_ck p1 16 <|
          if (s2 10 (p1).toNatClampNeg) = (0 : Int32) then
            some ((-1 : Int32), s2)
          else
            if p2 = (1 : Int32) then
              zx_ck p1 16 <|
              some ((s2 13 (p1).toNatClampNeg), s2)
            else
              if p2 = (2 : Int32) then
                zM_ValueBenchModel_about_L111 p1 s2
                  (fun v3_16 =>
                    some (v3_16, s2))
                  10000 (0 : Int32)
              else
                if p2 = (3 : Int32) then
                  some ((-1 : Int32), s2)
                else
                  if p2 = (4 : Int32) then
                    zM_ValueBenchModel_about_L131 p1 s2
                      (fun v3_13 =>
                        some (v3_13, s2))
                      10000 (0 : Int32) (0 : Int32)
                  else
                    if p2 = (5 : Int32) then
                      zM_ValueBenchModel_about_L172 p1 s2
                        (fun v3_8 =>
                          some (v3_8, s2))
                        10000 (0 : Int32) (0 : Int32)
                    else
                      some ((-1 : Int32), s2)
def zM_ValueBenchModel_predecessor (p1 p2 : Int32) (s : zx_S) : Option (Int32 × zx_S) :=
  zx_b1 (zM_ValueBenchModel_isBlock p1 s) fun r1 =>
  if r1 = (0 : Int32) then
    some ((-1 : Int32), s)
  else
    zx_b1 (zM_ValueBenchModel_make s) fun s2 =>
    zx_ck p1 16 <|
    if (s2 10 (p1).toNatClampNeg) = (0 : Int32) then
      some ((-1 : Int32), s2)
    else
      zx_b1 (zM_ValueBenchModel_predecessorAt p1 p2 s2) fun r3 =>
      some (r3, s2)
def zM_ValueBenchModel_areReached (p1 p2 : Int32) (s : zx_S) : Option (Int32 × zx_S) :=
  zx_b1 (zM_ValueBenchModel_isBlock p1 s) fun r1 =>
  if r1 = (0 : Int32) then
    some ((0 : Int32), s)
  else
    zx_b1 (zM_ValueBenchModel_isBlock p2 s) fun r2 =>
    if r2 = (0 : Int32) then
      some ((0 : Int32), s)
    else
      zx_b1 (zM_ValueBenchModel_make s) fun s3 =>
      zx_ck p1 16 <|
      if (s3 10 (p1).toNatClampNeg) = (0 : Int32) then
        some ((0 : Int32), s3)
      else
        zx_ck p2 16 <|
        if (s3 10 (p2).toNatClampNeg) = (0 : Int32) then
          some ((0 : Int32), s3)
        else
          some ((1 : Int32), s3)
def zM_ValueBenchModel_dominates (p1 p2 : Int32) (s : zx_S) : Option (Int32 × zx_S) :=
  zx_b2 (zM_ValueBenchModel_areReached p1 p2 s) fun r1 s2 =>
  if r1 = (0 : Int32) then
    some ((-1 : Int32), s2)
  else
    zx_b1 (zM_ValueBenchModel_dominates1 p1 p2 s2) fun r3 =>
    if r3 = (0 : Int32) then
      some ((0 : Int32), s2)
    else
      some ((1 : Int32), s2)
def zM_ValueBenchModel_meets (p1 p2 : Int32) (s : zx_S) : Option (Int32 × zx_S) :=
  zx_b2 (zM_ValueBenchModel_areReached p1 p2 s) fun r1 s2 =>
  if r1 = (0 : Int32) then
    some ((-1 : Int32), s2)
  else
    zx_ck (((16 : Int32) * p1) + p2) 256 <|
    if (s2 14 ((((16 : Int32) * p1) + p2)).toNatClampNeg) = (0 : Int32) then
      some ((0 : Int32), s2)
    else
      some ((1 : Int32), s2)
def zM_ValueBenchModel_isValue (p1 : Int32) (s : zx_S) : Option (Int32 × zx_S) :=
  zx_b1 (zM_ValueBenchModel_make s) fun s1 =>
  if p1 < (0 : Int32) then
    some ((0 : Int32), s1)
  else
    if (s1 0 18) ≤ p1 then
      some ((0 : Int32), s1)
    else
      some ((1 : Int32), s1)
def zM_ValueBenchModel_value (p1 p2 : Int32) (s : zx_S) : Option (Int32 × zx_S) :=
  zx_b2 (zM_ValueBenchModel_isValue p1 s) fun r1 s2 =>
  if r1 = (0 : Int32) then
    some ((-1 : Int32), s2)
  else
    if p2 = (0 : Int32) then
      zx_ck p1 270 <|
      some ((s2 16 (p1).toNatClampNeg), s2)
    else
      if p2 = (1 : Int32) then
        zx_ck p1 270 <|
        some ((s2 17 (p1).toNatClampNeg), s2)
      else
        if p2 = (2 : Int32) then
          zx_ck p1 270 <|
          some ((s2 18 (p1).toNatClampNeg), s2)
        else
          if p2 = (3 : Int32) then
            zx_ck p1 270 <|
            some ((s2 28 (p1).toNatClampNeg), s2)
          else
            if p2 = (4 : Int32) then
              zx_ck p1 270 <|
              if (s2 30 (p1).toNatClampNeg) = (0 : Int32) then
                some ((0 : Int32), s2)
              else
                some ((1 : Int32), s2)
            else
              if p2 = (5 : Int32) then
                zx_ck p1 270 <|
                some ((s2 22 (p1).toNatClampNeg), s2)
              else
                if p2 = (6 : Int32) then
                  zx_ck p1 270 <|
                  some ((s2 19 (p1).toNatClampNeg), s2)
                else
                  some ((-1 : Int32), s2)
def zM_ValueBenchModel_isOperand (p1 p2 : Int32) (s : zx_S) : Option (Int32 × zx_S) :=
  zx_b2 (zM_ValueBenchModel_isValue p1 s) fun r1 s2 =>
  if r1 = (0 : Int32) then
    some ((0 : Int32), s2)
  else
    if p2 < (0 : Int32) then
      some ((0 : Int32), s2)
    else
      zx_ck p1 270 <|
      if (s2 22 (p1).toNatClampNeg) ≤ p2 then
        some ((0 : Int32), s2)
      else
        some ((1 : Int32), s2)
def zM_ValueBenchModel_operand (p1 p2 : Int32) (s : zx_S) : Option (Int32 × zx_S) :=
  zx_b2 (zM_ValueBenchModel_isOperand p1 p2 s) fun r1 s2 =>
  if r1 = (0 : Int32) then
    some ((-1 : Int32), s2)
  else
    zx_ck (((20 : Int32) * p1) + p2) 5400 <|
    some ((s2 21 ((((20 : Int32) * p1) + p2)).toNatClampNeg), s2)
def zM_ValueBenchModel_led (p1 p2 : Int32) (s : zx_S) : Option (Int32 × zx_S) :=
  zx_b2 (zM_ValueBenchModel_isOperand p1 p2 s) fun r1 s2 =>
  if r1 = (0 : Int32) then
    some ((-1 : Int32), s2)
  else
    zx_ck p1 270 <|
    if (s2 30 (p1).toNatClampNeg) = (0 : Int32) then
      zx_b1 (zM_ValueBenchModel_ledOperand p1 p2 s2) fun r3 =>
      some (r3, s2)
    else
      some ((-1 : Int32), s2)
def zM_ValueBenchModel_classOf (p1 : Int32) (s : zx_S) : Option (Int32 × zx_S) :=
  zx_b2 (zM_ValueBenchModel_isValue p1 s) fun r1 s2 =>
  if r1 = (0 : Int32) then
    some ((-1 : Int32), s2)
  else
    zx_ck p1 270 <|
    some ((s2 28 (p1).toNatClampNeg), s2)
def zM_ValueBenchModel_read (p1 p2 : Int32) (s : zx_S) : Option (Int32 × zx_S) :=
  zx_b1 (zM_ValueBenchModel_isBlock p1 s) fun r1 =>
  if r1 = (0 : Int32) then
    some ((-1 : Int32), s)
  else
    zx_b1 (zM_ValueBenchModel_make s) fun s2 =>
    zx_ck p1 16 <|
    if (s2 10 (p1).toNatClampNeg) = (0 : Int32) then
      some ((-1 : Int32), s2)
    else
      zx_b1 (zM_ValueBenchModel_howOf p1 s2) fun r3 =>
      if r3 = (1 : Int32) then
        some ((-1 : Int32), s2)
      else
        zx_b1 (zM_ValueBenchModel_reads p1 p2 s2) fun r4 =>
        some (r4, s2)
def zM_ValueBenchModel_emits_L35 (v1 v2 v3 : Int32) (s : zx_S) (k72 : Int32 → Option (Int32 × zx_S)) : Nat → Int32 → Int32 → Option (Int32 × zx_S)
  | 0, _, _ => none
  | n + 1, v4, v5 =>
    zx_ck v1 16 <|
    if (s 5 (v1).toNatClampNeg) ≤ v5 then
      some ((-1 : Int32), s)
    else
      zx_ck (((100 : Int32) * v1) + v5) 1600 <|
      if (s 1 ((((100 : Int32) * v1) + v5)).toNatClampNeg) = (14 : Int32) then
        if v4 = v2 then
          k72 v5
        else
          zx_lt (v4 + (1 : Int32)) fun v4_4 =>
          zx_lt (v5 + (1 : Int32)) fun v5_5 =>
          (zM_ValueBenchModel_emits_L35 v1 v2 v3 s k72 n) v4_4 v5_5
      else
        zx_lt (v5 + (1 : Int32)) fun v5_3 =>
        (zM_ValueBenchModel_emits_L35 v1 v2 v3 s k72 n) v4 v5_3
def zM_ValueBenchModel_emits (p1 p2 p3 : Int32) (s : zx_S) : Option (Int32 × zx_S) :=
  zx_b1 (zM_ValueBenchModel_isBlock p1 s) fun r1 =>
  if r1 = (0 : Int32) then
    some ((-1 : Int32), s)
  else
    if (0 : Int32) ≤ p2 then
      zx_b1 (zM_ValueBenchModel_make s) fun s2 =>
      zx_ck p1 16 <|
      if (s2 10 (p1).toNatClampNeg) = (0 : Int32) then
        some ((-1 : Int32), s2)
      else
        zM_ValueBenchModel_emits_L35 p1 p2 p3 s2
          (fun v5_6 =>
            zx_ck (((100 : Int32) * p1) + v5_6) 1600 <|
            zx_b2 (zM_ValueBenchModel_readAt p1 v5_6 (s2 2 ((((100 : Int32) * p1) + v5_6)).toNatClampNeg) s2) fun r7 s8 =>
            if p3 = (0 : Int32) then
              some (r7, s8)
            else
              zx_b1 (zM_ValueBenchModel_leader r7 p1 v5_6 s8) fun r9 =>
              some (r9, s8))
          10000 (0 : Int32) (0 : Int32)
    else
      some ((-1 : Int32), s)
def zM_ValueBenchModel_count_L171 (s : zx_S) (k204 : Int32 → Option (Int32 × zx_S)) : Nat → Int32 → Int32 → Option (Int32 × zx_S)
  | 0, _, _ => none
  | n + 1, v2, v3 =>
    if (s 0 18) ≤ v3 then
      k204 v2
    else
      zx_ck v3 270 <|
      if (s 16 (v3).toNatClampNeg) = (15 : Int32) then
        zx_lt (v2 + (1 : Int32)) fun v2_2 =>
        zx_lt (v3 + (1 : Int32)) fun v3_3 =>
        (zM_ValueBenchModel_count_L171 s k204 n) v2_2 v3_3
      else
        zx_lt (v2 + (0 : Int32)) fun v2_4 =>
        zx_lt (v3 + (1 : Int32)) fun v3_5 =>
        (zM_ValueBenchModel_count_L171 s k204 n) v2_4 v3_5
def zM_ValueBenchModel_count_L136 (s : zx_S) (k167 : Int32 → Option (Int32 × zx_S)) : Nat → Int32 → Int32 → Option (Int32 × zx_S)
  | 0, _, _ => none
  | n + 1, v2, v3 =>
    if (s 0 18) ≤ v3 then
      k167 v2
    else
      zx_ck v3 270 <|
      if (s 30 (v3).toNatClampNeg) = (0 : Int32) then
        zx_lt (v2 + (0 : Int32)) fun v2_9 =>
        zx_lt (v3 + (1 : Int32)) fun v3_10 =>
        (zM_ValueBenchModel_count_L136 s k167 n) v2_9 v3_10
      else
        zx_lt (v2 + (1 : Int32)) fun v2_7 =>
        zx_lt (v3 + (1 : Int32)) fun v3_8 =>
        (zM_ValueBenchModel_count_L136 s k167 n) v2_7 v3_8
def zM_ValueBenchModel_count_L100 (s : zx_S) (k132 : Int32 → Option (Int32 × zx_S)) : Nat → Int32 → Int32 → Option (Int32 × zx_S)
  | 0, _, _ => none
  | n + 1, v2, v3 =>
    if (s 0 18) ≤ v3 then
      k132 v2
    else
      zx_ck v3 270 <|
      if (s 28 (v3).toNatClampNeg) = v3 then
        zx_lt (v2 + (1 : Int32)) fun v2_12 =>
        zx_lt (v3 + (1 : Int32)) fun v3_13 =>
        (zM_ValueBenchModel_count_L100 s k132 n) v2_12 v3_13
      else
        zx_lt (v2 + (0 : Int32)) fun v2_14 =>
        zx_lt (v3 + (1 : Int32)) fun v3_15 =>
        (zM_ValueBenchModel_count_L100 s k132 n) v2_14 v3_15
def zM_ValueBenchModel_count_L60 (s : zx_S) (k91 : Int32 → Option (Int32 × zx_S)) : Nat → Int32 → Int32 → Option (Int32 × zx_S)
  | 0, _, _ => none
  | n + 1, v2, v3 =>
    if (s 0 0) ≤ v3 then
      k91 v2
    else
      zx_ck v3 16 <|
      if (s 10 (v3).toNatClampNeg) = (0 : Int32) then
        zx_lt (v2 + (0 : Int32)) fun v2_19 =>
        zx_lt (v3 + (1 : Int32)) fun v3_20 =>
        (zM_ValueBenchModel_count_L60 s k91 n) v2_19 v3_20
      else
        zx_lt (v2 + (1 : Int32)) fun v2_17 =>
        zx_lt (v3 + (1 : Int32)) fun v3_18 =>
        (zM_ValueBenchModel_count_L60 s k91 n) v2_17 v3_18
def zM_ValueBenchModel_count (p1 : Int32) (s : zx_S) : Option (Int32 × zx_S) :=
  zx_b1 (zM_ValueBenchModel_make s) fun s1 =>
  if p1 = (0 : Int32) then
    some ((s1 0 0), s1)
  else
    if p1 = (1 : Int32) then
      some ((s1 0 1), s1)
    else
      if p1 = (2 : Int32) then
        zM_ValueBenchModel_count_L60 s1
          (fun v2_21 =>
            some (v2_21, s1))
          10000 (0 : Int32) (0 : Int32)
      else
        if p1 = (3 : Int32) then
          some ((s1 0 18), s1)
        else
          if p1 = (4 : Int32) then
            zM_ValueBenchModel_count_L100 s1
              (fun v2_16 =>
                some (v2_16, s1))
              10000 (0 : Int32) (0 : Int32)
          else
            if p1 = (5 : Int32) then
              zM_ValueBenchModel_count_L136 s1
                (fun v2_11 =>
                  some (v2_11, s1))
                10000 (0 : Int32) (0 : Int32)
            else
              if p1 = (6 : Int32) then
                zM_ValueBenchModel_count_L171 s1
                  (fun v2_6 =>
                    some (v2_6, s1))
                  10000 (0 : Int32) (0 : Int32)
              else
                some ((-1 : Int32), s1)
