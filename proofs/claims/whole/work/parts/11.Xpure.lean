def zX_ValueBench_block (s : zx_S) : Option (Int32 × zx_S) :=
  if (s 1 9) < (16 : Int32) then
    zx_ls (zx_su s 0 9 (1 : Int32)) fun s1 =>
    zx_lt ((s1 1 9) + (1 : Int32)) fun x2 =>
    zx_ls (zx_su s1 1 9 x2) fun s3 =>
    some (((s3 1 9) - (1 : Int32)), s3)
  else
    some ((-1 : Int32), s)
def zX_Program_has (p1 : Int32) (s : zx_S) : Option Int32 :=
  if p1 < (0 : Int32) then
    some (0 : Int32)
  else
    if (s 1 9) ≤ p1 then
      some (0 : Int32)
    else
      some (1 : Int32)
def zX_Program_instructions (s : zx_S) : Option Int32 :=
  zx_ck (16 : Int32) 17 <|
  some (s 2 ((16 : Int32)).toNatClampNeg)
def zX_Program_isVariable (p0 : Int32) (s : zx_S) : Option Int32 :=
  if p0 < (0 : Int32) then
    some (0 : Int32)
  else
    if (10 : Int32) ≤ p0 then
      some (0 : Int32)
    else
      some (1 : Int32)
def zX_Program_fits (p0 p1 p2 p3 : Int32) (s : zx_S) : Option Int32 :=
  if p0 < (0 : Int32) then
    some (0 : Int32)
  else
    if (14 : Int32) < p0 then
      some (0 : Int32)
    else
      zx_b1 (zX_Program_isVariable p1 s) fun r1 =>
      if r1 = (0 : Int32) then
        some (0 : Int32)
      else
        if p0 = (0 : Int32) then
          some (1 : Int32)
        else
          if p0 = (1 : Int32) then
            if p2 < (0 : Int32) then
              some (0 : Int32)
            else
              if (4 : Int32) ≤ p2 then
                some (0 : Int32)
              else
                some (1 : Int32)
          else
            if p0 = (2 : Int32) then
              zx_b1 (zX_Program_isVariable p2 s) fun r4 =>
              zx_zr r4 <| some r4
            else
              if p0 = (14 : Int32) then
                some (1 : Int32)
              else
                zx_b1 (zX_Program_isVariable p2 s) fun r2 =>
                if r2 = (0 : Int32) then
                  some (0 : Int32)
                else
                  zx_b1 (zX_Program_isVariable p3 s) fun r3 =>
                  if r3 = (0 : Int32) then
                    some (0 : Int32)
                  else
                    some (1 : Int32)
def zX_Program_insertAt (p1 p2 p3 : Int32) (s : zx_S) : Option zx_S :=
  zx_cp s 3 p1 100 3 (p1 + (1 : Int32)) 100 p2 fun s1 =>
  zx_ck p1 100 <|
  zx_ls (zx_su s1 3 (p1).toNatClampNeg p3) fun s2 =>
  some s2
def zX_Program_insertAt_2 (p1 p2 p3 : Int32) (s : zx_S) : Option zx_S :=
  zx_cp s 4 p1 100 4 (p1 + (1 : Int32)) 100 p2 fun s1 =>
  zx_ck p1 100 <|
  zx_ls (zx_su s1 4 (p1).toNatClampNeg p3) fun s2 =>
  some s2
def zX_Program_insertAt_3 (p1 p2 p3 : Int32) (s : zx_S) : Option zx_S :=
  zx_cp s 5 p1 100 5 (p1 + (1 : Int32)) 100 p2 fun s1 =>
  zx_ck p1 100 <|
  zx_ls (zx_su s1 5 (p1).toNatClampNeg p3) fun s2 =>
  some s2
def zX_Program_insertAt_4 (p1 p2 p3 : Int32) (s : zx_S) : Option zx_S :=
  zx_cp s 6 p1 100 6 (p1 + (1 : Int32)) 100 p2 fun s1 =>
  zx_ck p1 100 <|
  zx_ls (zx_su s1 6 (p1).toNatClampNeg p3) fun s2 =>
  some s2
def zX_Program_insert_L74 (k98 : zx_S → Option zx_S) : Nat → Int32 → zx_S → Option zx_S
  | 0, _, _ => none
  | n + 1, v8, s =>
    if (16 : Int32) < v8 then
      k98 s
    else
      zx_ck v8 17 <|
      zx_lt ((s 2 (v8).toNatClampNeg) + (1 : Int32)) fun x9 =>
      zx_ck v8 17 <|
      zx_ls (zx_su s 2 (v8).toNatClampNeg x9) fun s10 =>
      zx_lt (v8 + (1 : Int32)) fun v8_11 =>
      (zX_Program_insert_L74 k98 n) v8_11 s10
def zX_Program_insert (p1 p2 p3 p4 p5 : Int32) (s : zx_S) : Option zx_S :=
  zx_ck (p1 + (1 : Int32)) 17 <|
  zx_lt (s 2 ((p1 + (1 : Int32))).toNatClampNeg) fun v6_1 =>
  zx_b1 (zX_Program_instructions s) fun r2 =>
  zx_lt (r2 - v6_1) fun v7_3 =>
  zx_b1 (zX_Program_insertAt v6_1 v7_3 p2 s) fun s4 =>
  zx_b1 (zX_Program_insertAt_2 v6_1 v7_3 p3 s4) fun s5 =>
  zx_b1 (zX_Program_insertAt_3 v6_1 v7_3 p4 s5) fun s6 =>
  zx_b1 (zX_Program_insertAt_4 v6_1 v7_3 p5 s6) fun s7 =>
  zx_lt (p1 + (1 : Int32)) fun v8_8 =>
  zX_Program_insert_L74
    (fun s12 =>
      some s12)
    10000 v8_8 s7
def zX_ValueBench_put (p1 p2 p3 p4 p5 : Int32) (s : zx_S) : Option (Int32 × zx_S) :=
  zx_b1 (zX_Program_has p1 s) fun r1 =>
  if r1 = (0 : Int32) then
    some ((-1 : Int32), s)
  else
    zx_b1 (zX_Program_instructions s) fun r2 =>
    if (100 : Int32) ≤ r2 then
      some ((-1 : Int32), s)
    else
      zx_b1 (zX_Program_fits p2 p3 p4 p5 s) fun r3 =>
      if r3 = (0 : Int32) then
        some ((-1 : Int32), s)
      else
        zx_ls (zx_su s 0 9 (1 : Int32)) fun s4 =>
        if p2 = (14 : Int32) then
          zx_b1 (zX_Program_insert p1 p2 (-1 : Int32) p3 (-1 : Int32) s4) fun s5 =>
          zx_b1 (zX_Program_instructions s5) fun r6 =>
          some (r6, s5)
        else
          zx_b1 (zX_Program_insert p1 p2 p3 p4 p5 s4) fun s7 =>
          zx_b1 (zX_Program_instructions s7) fun r8 =>
          some (r8, s7)
def zX_Program_isBlockNumber (p0 : Int32) (s : zx_S) : Option Int32 :=
  if p0 < (0 : Int32) then
    some (0 : Int32)
  else
    if (16 : Int32) ≤ p0 then
      some (0 : Int32)
    else
      some (1 : Int32)
def zX_Program_endFits (p0 p1 p2 p3 : Int32) (s : zx_S) : Option Int32 :=
  if p0 = (0 : Int32) then
    zx_b1 (zX_Program_isVariable p1 s) fun r5 =>
    zx_zr r5 <| some r5
  else
    if p0 = (1 : Int32) then
      zx_b1 (zX_Program_isBlockNumber p2 s) fun r4 =>
      zx_zr r4 <| some r4
    else
      if p0 = (2 : Int32) then
        zx_b1 (zX_Program_isVariable p1 s) fun r1 =>
        if r1 = (0 : Int32) then
          some (0 : Int32)
        else
          zx_b1 (zX_Program_isBlockNumber p2 s) fun r2 =>
          if r2 = (0 : Int32) then
            some (0 : Int32)
          else
            zx_b1 (zX_Program_isBlockNumber p3 s) fun r3 =>
            if r3 = (0 : Int32) then
              some (0 : Int32)
            else
              some (1 : Int32)
      else
        some (0 : Int32)
def zX_Program_setEnd_J38 (v1 v2 v5 t1 t2 : Int32) (s : zx_S) : Option zx_S :=
  zx_ck t1 16 <|
  zx_ls (zx_su s 9 (t1).toNatClampNeg t2) fun s3 =>
  if v2 = (2 : Int32) then
    zx_ck v1 16 <|
    zx_ls (zx_su s3 10 (v1).toNatClampNeg v5) fun s4 =>
    some s4
  else
    zx_ck v1 16 <|
    zx_lt (s3 9 (v1).toNatClampNeg) fun x5 =>
    zx_ck v1 16 <|
    zx_ls (zx_su s3 10 (v1).toNatClampNeg x5) fun s6 =>
    some s6
def zX_Program_setEnd_J22 (v1 v2 v4 v5 t1 t2 : Int32) (s : zx_S) : Option zx_S :=
  zx_ck t1 16 <|
  zx_ls (zx_su s 8 (t1).toNatClampNeg t2) fun s2 =>
  if v2 = (0 : Int32) then
    (zX_Program_setEnd_J38) v1 v2 v5 v1 (0 : Int32) s2
  else
    (zX_Program_setEnd_J38) v1 v2 v5 v1 v4 s2
def zX_Program_setEnd (p1 p2 p3 p4 p5 : Int32) (s : zx_S) : Option zx_S :=
  zx_ck p1 16 <|
  zx_ls (zx_su s 7 (p1).toNatClampNeg p2) fun s1 =>
  if p2 = (1 : Int32) then
    (zX_Program_setEnd_J22) p1 p2 p4 p5 p1 (0 : Int32) s1
  else
    (zX_Program_setEnd_J22) p1 p2 p4 p5 p1 p3 s1
def zX_ValueBench_ends (p1 p2 p3 p4 p5 : Int32) (s : zx_S) : Option (Int32 × zx_S) :=
  zx_b1 (zX_Program_has p1 s) fun r1 =>
  if r1 = (0 : Int32) then
    some ((0 : Int32), s)
  else
    zx_b1 (zX_Program_endFits p2 p3 p4 p5 s) fun r2 =>
    if r2 = (0 : Int32) then
      some ((0 : Int32), s)
    else
      zx_ls (zx_su s 0 9 (1 : Int32)) fun s3 =>
      zx_b1 (zX_Program_setEnd p1 p2 p3 p4 p5 s3) fun s4 =>
      some ((1 : Int32), s4)
def zX_Arrays_fill_L5 (v1 v3 : Int32) (k20 : zx_S → Option zx_S) : Nat → Int32 → zx_S → Option zx_S
  | 0, _, _ => none
  | n + 1, v2, s =>
    if v3 ≤ v2 then
      k20 s
    else
      zx_ck v2 17 <|
      zx_ls (zx_su s 2 (v2).toNatClampNeg v1) fun s1 =>
      zx_lt (v2 + (1 : Int32)) fun v2_2 =>
      (zX_Arrays_fill_L5 v1 v3 k20 n) v2_2 s1
def zX_Arrays_fill (p1 : Int32) (s : zx_S) : Option zx_S :=
  zX_Arrays_fill_L5 p1 (17 : Int32)
    (fun s3 =>
      some s3)
    10000 (0 : Int32) s
def zX_Arrays_fill_2_L5 (v1 v3 : Int32) (k20 : zx_S → Option zx_S) : Nat → Int32 → zx_S → Option zx_S
  | 0, _, _ => none
  | n + 1, v2, s =>
    if v3 ≤ v2 then
      k20 s
    else
      zx_ck v2 16 <|
      zx_ls (zx_su s 7 (v2).toNatClampNeg v1) fun s1 =>
      zx_lt (v2 + (1 : Int32)) fun v2_2 =>
      (zX_Arrays_fill_2_L5 v1 v3 k20 n) v2_2 s1
def zX_Arrays_fill_2 (p1 : Int32) (s : zx_S) : Option zx_S :=
  zX_Arrays_fill_2_L5 p1 (16 : Int32)
    (fun s3 =>
      some s3)
    10000 (0 : Int32) s
def zX_Arrays_fill_3_L5 (v1 v3 : Int32) (k20 : zx_S → Option zx_S) : Nat → Int32 → zx_S → Option zx_S
  | 0, _, _ => none
  | n + 1, v2, s =>
    if v3 ≤ v2 then
      k20 s
    else
      zx_ck v2 16 <|
      zx_ls (zx_su s 8 (v2).toNatClampNeg v1) fun s1 =>
      zx_lt (v2 + (1 : Int32)) fun v2_2 =>
      (zX_Arrays_fill_3_L5 v1 v3 k20 n) v2_2 s1
def zX_Arrays_fill_3 (p1 : Int32) (s : zx_S) : Option zx_S :=
  zX_Arrays_fill_3_L5 p1 (16 : Int32)
    (fun s3 =>
      some s3)
    10000 (0 : Int32) s
def zX_Program_forget (s : zx_S) : Option zx_S :=
  zx_ls (zx_su s 1 9 (0 : Int32)) fun s1 =>
  zx_b1 (zX_Arrays_fill (0 : Int32) s1) fun s2 =>
  zx_b1 (zX_Arrays_fill_2 (0 : Int32) s2) fun s3 =>
  zx_b1 (zX_Arrays_fill_3 (0 : Int32) s3) fun s4 =>
  some s4
def zX_ValueBench_clear (s : zx_S) : Option (Int32 × zx_S) :=
  zx_lt (s 1 9) fun v1_1 =>
  zx_ls (zx_su s 0 9 (1 : Int32)) fun s2 =>
  zx_b1 (zX_Program_forget s2) fun s3 =>
  some (v1_1, s3)
def zX_Program_endCounts (p1 : Int32) (s : zx_S) : Option Int32 :=
  zx_ck p1 16 <|
  if (s 7 (p1).toNatClampNeg) = (0 : Int32) then
    some (1 : Int32)
  else
    zx_ck p1 16 <|
    zx_b1 (zX_Program_has (s 9 (p1).toNatClampNeg) s) fun r1 =>
    if r1 = (0 : Int32) then
      some (0 : Int32)
    else
      zx_ck p1 16 <|
      zx_b1 (zX_Program_has (s 10 (p1).toNatClampNeg) s) fun r2 =>
      if r2 = (0 : Int32) then
        some (0 : Int32)
      else
        some (1 : Int32)
def zX_Program_howCounts (p1 : Int32) (s : zx_S) : Option Int32 :=
  zx_b1 (zX_Program_endCounts p1 s) fun r1 =>
  if r1 = (0 : Int32) then
    some (0 : Int32)
  else
    zx_ck p1 16 <|
    some (s 7 (p1).toNatClampNeg)
def zX_Program_toldBlocks (p1 : Int32) (s : zx_S) : Option Int32 :=
  zx_b1 (zX_Program_howCounts p1 s) fun r1 =>
  if r1 = (0 : Int32) then
    some (0 : Int32)
  else
    zx_ck p1 16 <|
    zx_ck p1 16 <|
    some (((1 : Int32) <<< ((s 9 (p1).toNatClampNeg) &&& 31)) ||| ((1 : Int32) <<< ((s 10 (p1).toNatClampNeg) &&& 31)))
def zX_Graph_isIn (p0 p1 : Int32) (s : zx_S) : Option Int32 :=
  if ((p0 >>> (p1 &&& 31)) &&& (1 : Int32)) = (0 : Int32) then
    some (0 : Int32)
  else
    some (1 : Int32)
def zX_Graph_turnAround_L14 (v2 : Int32) (k45 : zx_S → Option zx_S) : Nat → Int32 → zx_S → Option zx_S
  | 0, _, _ => none
  | n + 1, v3, s =>
    if (16 : Int32) ≤ v3 then
      k45 s
    else
      zx_ck v3 16 <|
      zx_b1 (zX_Graph_isIn (s 12 (v3).toNatClampNeg) v2 s) fun r2 =>
      if r2 = (0 : Int32) then
        zx_lt (v3 + (1 : Int32)) fun v3_6 =>
        (zX_Graph_turnAround_L14 v2 k45 n) v3_6 s
      else
        zx_ck v2 16 <|
        zx_lt ((s 13 (v2).toNatClampNeg) ||| ((1 : Int32) <<< (v3 &&& 31))) fun x3 =>
        zx_ck v2 16 <|
        zx_ls (zx_su s 13 (v2).toNatClampNeg x3) fun s4 =>
        zx_lt (v3 + (1 : Int32)) fun v3_5 =>
        (zX_Graph_turnAround_L14 v2 k45 n) v3_5 s4
def zX_Graph_turnAround_L2 (k51 : zx_S → Option zx_S) : Nat → Int32 → zx_S → Option zx_S
  | 0, _, _ => none
  | n + 1, v2, s =>
    if (16 : Int32) ≤ v2 then
      k51 s
    else
      zx_ck v2 16 <|
      zx_ls (zx_su s 13 (v2).toNatClampNeg (0 : Int32)) fun s1 =>
      zX_Graph_turnAround_L14 v2
        (fun s7 =>
          zx_lt (v2 + (1 : Int32)) fun v2_8 =>
          (zX_Graph_turnAround_L2 k51 n) v2_8 s7)
        10000 (0 : Int32) s1
def zX_Graph_turnAround (s : zx_S) : Option zx_S :=
  zX_Graph_turnAround_L2
    (fun s9 =>
      some s9)
    10000 (0 : Int32) s
def zX_Graph_union_L4 (v0 : Int32) (s : zx_S) (k30 : Int32 → Option Int32) : Nat → Int32 → Int32 → Option Int32
  | 0, _, _ => none
  | n + 1, v2, v3 =>
    if (16 : Int32) ≤ v3 then
      k30 v2
    else
      zx_b1 (zX_Graph_isIn v0 v3 s) fun r1 =>
      if r1 = (0 : Int32) then
        zx_lt (v3 + (1 : Int32)) fun v3_4 =>
        (zX_Graph_union_L4 v0 s k30 n) v2 v3_4
      else
        zx_ck v3 16 <|
        zx_lt (v2 ||| (s 12 (v3).toNatClampNeg)) fun v2_2 =>
        zx_lt (v3 + (1 : Int32)) fun v3_3 =>
        (zX_Graph_union_L4 v0 s k30 n) v2_2 v3_3
def zX_Graph_union (p0 : Int32) (s : zx_S) : Option Int32 :=
  zX_Graph_union_L4 p0 s
    (fun v2_5 =>
      some v2_5)
    10000 (0 : Int32) (0 : Int32)
def zX_Graph_closure_L12 (v2 : Int32) (s : zx_S) (k46 : Int32 → Option Int32) : Nat → Int32 → Int32 → Int32 → Option Int32
  | 0, _, _, _ => none
  | n + 1, v3, v4, v5 =>
    if (16 : Int32) ≤ v5 then
      k46 v3
    else
      if v3 = v4 then
        k46 v3
      else
        zx_b1 (zX_Graph_union v3 s) fun r2 =>
        zx_lt (v3 ||| (r2 &&& (v2 ^^^ (-1 : Int32)))) fun v3_3 =>
        zx_lt (v5 + (1 : Int32)) fun v5_4 =>
        (zX_Graph_closure_L12 v2 s k46 n) v3_3 v3 v5_4
def zX_Graph_closure (p0 p2 : Int32) (s : zx_S) : Option Int32 :=
  zx_lt (p0 &&& (p2 ^^^ (-1 : Int32))) fun v3_1 =>
  zX_Graph_closure_L12 p2 s
    (fun v3_5 =>
      some v3_5)
    10000 v3_1 (0 : Int32) (0 : Int32)
def zX_Graph_turnAround_2_L14 (v2 : Int32) (k45 : zx_S → Option zx_S) : Nat → Int32 → zx_S → Option zx_S
  | 0, _, _ => none
  | n + 1, v3, s =>
    if (16 : Int32) ≤ v3 then
      k45 s
    else
      zx_ck v3 16 <|
      zx_b1 (zX_Graph_isIn (s 14 (v3).toNatClampNeg) v2 s) fun r2 =>
      if r2 = (0 : Int32) then
        zx_lt (v3 + (1 : Int32)) fun v3_6 =>
        (zX_Graph_turnAround_2_L14 v2 k45 n) v3_6 s
      else
        zx_ck v2 16 <|
        zx_lt ((s 15 (v2).toNatClampNeg) ||| ((1 : Int32) <<< (v3 &&& 31))) fun x3 =>
        zx_ck v2 16 <|
        zx_ls (zx_su s 15 (v2).toNatClampNeg x3) fun s4 =>
        zx_lt (v3 + (1 : Int32)) fun v3_5 =>
        (zX_Graph_turnAround_2_L14 v2 k45 n) v3_5 s4
def zX_Graph_turnAround_2_L2 (k51 : zx_S → Option zx_S) : Nat → Int32 → zx_S → Option zx_S
  | 0, _, _ => none
  | n + 1, v2, s =>
    if (16 : Int32) ≤ v2 then
      k51 s
    else
      zx_ck v2 16 <|
      zx_ls (zx_su s 15 (v2).toNatClampNeg (0 : Int32)) fun s1 =>
      zX_Graph_turnAround_2_L14 v2
        (fun s7 =>
          zx_lt (v2 + (1 : Int32)) fun v2_8 =>
          (zX_Graph_turnAround_2_L2 k51 n) v2_8 s7)
        10000 (0 : Int32) s1
def zX_Graph_turnAround_2 (s : zx_S) : Option zx_S :=
  zX_Graph_turnAround_2_L2
    (fun s9 =>
      some s9)
    10000 (0 : Int32) s
def zX_Graph_parentOf_L15 (v2 : Int32) (s : zx_S) (k39 : Int32 → Option Int32) : Nat → Int32 → Option Int32
  | 0, _ => none
  | n + 1, v3 =>
    if (16 : Int32) ≤ v3 then
      some (-1 : Int32)
    else
      zx_b1 (zX_Graph_isIn v2 v3 s) fun r2 =>
      if r2 = (0 : Int32) then
        zx_lt (v3 + (1 : Int32)) fun v3_4 =>
        (zX_Graph_parentOf_L15 v2 s k39 n) v3_4
      else
        zx_ck v3 16 <|
        if (s 15 (v3).toNatClampNeg) = v2 then
          k39 v3
        else
          zx_lt (v3 + (1 : Int32)) fun v3_3 =>
          (zX_Graph_parentOf_L15 v2 s k39 n) v3_3
def zX_Graph_parentOf (p1 : Int32) (s : zx_S) : Option Int32 :=
  zx_ck p1 16 <|
  zx_lt ((s 15 (p1).toNatClampNeg) &&& (((1 : Int32) <<< (p1 &&& 31)) ^^^ (-1 : Int32))) fun v2_1 =>
  zX_Graph_parentOf_L15 v2_1 s
    (fun v3_5 =>
      some v3_5)
    10000 (0 : Int32)
def zX_Graph_frontierOf_J33 (k4 : Int32 → Int32 → Option Int32) (v1 v2 v3 t0 : Int32) (s : zx_S) : Option Int32 :=
  zx_ck v1 16 <|
  zx_ck v3 16 <|
  if ((s 14 (v1).toNatClampNeg) &&& (s 13 (v3).toNatClampNeg)) = (0 : Int32) then
    zx_lt (v3 + (1 : Int32)) fun v3_4 =>
    k4 v2 v3_4
  else
    if t0 = (0 : Int32) then
      zx_lt (v2 ||| ((1 : Int32) <<< (v3 &&& 31))) fun v2_1 =>
      zx_lt (v3 + (1 : Int32)) fun v3_2 =>
      k4 v2_1 v3_2
    else
      zx_lt (v3 + (1 : Int32)) fun v3_3 =>
      k4 v2 v3_3
def zX_Graph_frontierOf_L4 (v1 : Int32) (s : zx_S) (k68 : Int32 → Option Int32) : Nat → Int32 → Int32 → Option Int32
  | 0, _, _ => none
  | n + 1, v2, v3 =>
    if (16 : Int32) ≤ v3 then
      k68 v2
    else
      if v1 = v3 then
        (zX_Graph_frontierOf_J33 (zX_Graph_frontierOf_L4 v1 s k68 n)) v1 v2 v3 (0 : Int32) s
      else
        zx_ck v1 16 <|
        zx_b1 (zX_Graph_isIn (s 14 (v1).toNatClampNeg) v3 s) fun r5 =>
        if r5 = (0 : Int32) then
          (zX_Graph_frontierOf_J33 (zX_Graph_frontierOf_L4 v1 s k68 n)) v1 v2 v3 (0 : Int32) s
        else
          (zX_Graph_frontierOf_J33 (zX_Graph_frontierOf_L4 v1 s k68 n)) v1 v2 v3 (1 : Int32) s
def zX_Graph_frontierOf (p1 : Int32) (s : zx_S) : Option Int32 :=
  zX_Graph_frontierOf_L4 p1 s
    (fun v2_6 =>
      some v2_6)
    10000 (0 : Int32) (0 : Int32)
def zX_Graph_draw_L2 (k37 : zx_S → Option zx_S) : Nat → Int32 → zx_S → Option zx_S
  | 0, _, _ => none
  | n + 1, v2, s =>
    if (16 : Int32) ≤ v2 then
      k37 s
    else
      zx_b1 (zX_Program_has v2 s) fun r1 =>
      if r1 = (0 : Int32) then
        zx_ck v2 16 <|
        zx_ls (zx_su s 12 (v2).toNatClampNeg (0 : Int32)) fun s5 =>
        zx_lt (v2 + (1 : Int32)) fun v2_6 =>
        (zX_Graph_draw_L2 k37 n) v2_6 s5
      else
        zx_b1 (zX_Program_toldBlocks v2 s) fun r2 =>
        zx_ck v2 16 <|
        zx_ls (zx_su s 12 (v2).toNatClampNeg r2) fun s3 =>
        zx_lt (v2 + (1 : Int32)) fun v2_4 =>
        (zX_Graph_draw_L2 k37 n) v2_4 s3
def zX_Graph_draw_L64 (k94 : zx_S → Option zx_S) : Nat → Int32 → zx_S → Option zx_S
  | 0, _, _ => none
  | n + 1, v2, s =>
    if (16 : Int32) ≤ v2 then
      k94 s
    else
      zx_b1 (zX_Graph_isIn (s 11 6) v2 s) fun r10 =>
      if r10 = (0 : Int32) then
        zx_ck v2 16 <|
        zx_ls (zx_su s 12 (v2).toNatClampNeg (0 : Int32)) fun s11 =>
        zx_lt (v2 + (1 : Int32)) fun v2_12 =>
        (zX_Graph_draw_L64 k94 n) v2_12 s11
      else
        zx_lt (v2 + (1 : Int32)) fun v2_13 =>
        (zX_Graph_draw_L64 k94 n) v2_13 s
def zX_Graph_draw_L107 (k148 : zx_S → Option zx_S) : Nat → Int32 → zx_S → Option zx_S
  | 0, _, _ => none
  | n + 1, v2, s =>
    if (16 : Int32) ≤ v2 then
      k148 s
    else
      zx_b1 (zX_Graph_closure ((s 11 6) &&& (1 : Int32)) ((1 : Int32) <<< (v2 &&& 31)) s) fun r16 =>
      zx_lt ((s 11 6) &&& (r16 ^^^ (-1 : Int32))) fun x17 =>
      zx_ck v2 16 <|
      zx_ls (zx_su s 14 (v2).toNatClampNeg x17) fun s18 =>
      zx_lt (v2 + (1 : Int32)) fun v2_19 =>
      (zX_Graph_draw_L107 k148 n) v2_19 s18
def zX_Graph_draw_L161 (k195 : zx_S → Option zx_S) : Nat → Int32 → zx_S → Option zx_S
  | 0, _, _ => none
  | n + 1, v2, s =>
    if (16 : Int32) ≤ v2 then
      k195 s
    else
      zx_b1 (zX_Graph_parentOf v2 s) fun r22 =>
      zx_ck v2 16 <|
      zx_ls (zx_su s 16 (v2).toNatClampNeg r22) fun s23 =>
      zx_b1 (zX_Graph_frontierOf v2 s23) fun r24 =>
      zx_ck v2 16 <|
      zx_ls (zx_su s23 17 (v2).toNatClampNeg r24) fun s25 =>
      zx_lt (v2 + (1 : Int32)) fun v2_26 =>
      (zX_Graph_draw_L161 k195 n) v2_26 s25
def zX_Graph_draw_J59 (t1 : Int32) (s : zx_S) : Option zx_S :=
  zx_ls (zx_su s 11 6 t1) fun s9 =>
  zX_Graph_draw_L64
    (fun s14 =>
      zx_b1 (zX_Graph_turnAround s14) fun s15 =>
      zX_Graph_draw_L107
        (fun s20 =>
          zx_b1 (zX_Graph_turnAround_2 s20) fun s21 =>
          zX_Graph_draw_L161
            (fun s27 =>
              some s27)
            10000 (0 : Int32) s21)
        10000 (0 : Int32) s15)
    10000 (0 : Int32) s9
def zX_Graph_draw (s : zx_S) : Option zx_S :=
  zX_Graph_draw_L2
    (fun s7 =>
      zx_b1 (zX_Program_has (0 : Int32) s7) fun r8 =>
      if r8 = (0 : Int32) then
        (zX_Graph_draw_J59) (0 : Int32) s7
      else
        zx_b1 (zX_Graph_closure (1 : Int32) (0 : Int32) s7) fun r28 =>
        (zX_Graph_draw_J59) r28 s7)
    10000 (0 : Int32) s
def zX_Values_givingBlocks_L18 (v1 v3 : Int32) (s : zx_S) (k54 : Int32 → Option Int32) : Nat → Int32 → Int32 → Option Int32
  | 0, _, _ => none
  | n + 1, v2, v4 =>
    zx_ck (v3 + (1 : Int32)) 17 <|
    if (s 2 ((v3 + (1 : Int32))).toNatClampNeg) ≤ v4 then
      k54 v2
    else
      zx_ck v4 100 <|
      if (s 4 (v4).toNatClampNeg) = v1 then
        zx_lt (v2 ||| ((1 : Int32) <<< (v3 &&& 31))) fun v2_2 =>
        zx_lt (v4 + (1 : Int32)) fun v4_3 =>
        (zX_Values_givingBlocks_L18 v1 v3 s k54 n) v2_2 v4_3
      else
        zx_lt (v4 + (1 : Int32)) fun v4_4 =>
        (zX_Values_givingBlocks_L18 v1 v3 s k54 n) v2 v4_4
def zX_Values_givingBlocks_L4 (v1 : Int32) (s : zx_S) (k60 : Int32 → Option Int32) : Nat → Int32 → Int32 → Option Int32
  | 0, _, _ => none
  | n + 1, v2, v3 =>
    if (16 : Int32) ≤ v3 then
      k60 v2
    else
      zx_ck v3 17 <|
      zx_lt (s 2 (v3).toNatClampNeg) fun v4_1 =>
      zX_Values_givingBlocks_L18 v1 v3 s
        (fun v2_5 =>
          zx_lt (v3 + (1 : Int32)) fun v3_6 =>
          (zX_Values_givingBlocks_L4 v1 s k60 n) v2_5 v3_6)
        10000 v2 v4_1
def zX_Values_givingBlocks (p1 : Int32) (s : zx_S) : Option Int32 :=
  zX_Values_givingBlocks_L4 p1 s
    (fun v2_7 =>
      some v2_7)
    10000 (0 : Int32) (0 : Int32)
def zX_Graph_union_2_L4 (v0 : Int32) (s : zx_S) (k30 : Int32 → Option Int32) : Nat → Int32 → Int32 → Option Int32
  | 0, _, _ => none
  | n + 1, v2, v3 =>
    if (16 : Int32) ≤ v3 then
      k30 v2
    else
      zx_b1 (zX_Graph_isIn v0 v3 s) fun r1 =>
      if r1 = (0 : Int32) then
        zx_lt (v3 + (1 : Int32)) fun v3_4 =>
        (zX_Graph_union_2_L4 v0 s k30 n) v2 v3_4
      else
        zx_ck v3 16 <|
        zx_lt (v2 ||| (s 17 (v3).toNatClampNeg)) fun v2_2 =>
        zx_lt (v3 + (1 : Int32)) fun v3_3 =>
        (zX_Graph_union_2_L4 v0 s k30 n) v2_2 v3_3
def zX_Graph_union_2 (p0 : Int32) (s : zx_S) : Option Int32 :=
  zX_Graph_union_2_L4 p0 s
    (fun v2_5 =>
      some v2_5)
    10000 (0 : Int32) (0 : Int32)
def zX_Graph_closure_2_L12 (v2 : Int32) (s : zx_S) (k46 : Int32 → Option Int32) : Nat → Int32 → Int32 → Int32 → Option Int32
  | 0, _, _, _ => none
  | n + 1, v3, v4, v5 =>
    if (16 : Int32) ≤ v5 then
      k46 v3
    else
      if v3 = v4 then
        k46 v3
      else
        zx_b1 (zX_Graph_union_2 v3 s) fun r2 =>
        zx_lt (v3 ||| (r2 &&& (v2 ^^^ (-1 : Int32)))) fun v3_3 =>
        zx_lt (v5 + (1 : Int32)) fun v5_4 =>
        (zX_Graph_closure_2_L12 v2 s k46 n) v3_3 v3 v5_4
def zX_Graph_closure_2 (p0 p2 : Int32) (s : zx_S) : Option Int32 :=
  zx_lt (p0 &&& (p2 ^^^ (-1 : Int32))) fun v3_1 =>
  zX_Graph_closure_2_L12 p2 s
    (fun v3_5 =>
      some v3_5)
    10000 v3_1 (0 : Int32) (0 : Int32)
def zX_Values_placeChoices_L2 (k55 : zx_S → Option zx_S) : Nat → Int32 → zx_S → Option zx_S
  | 0, _, _ => none
  | n + 1, v3, s =>
    if (10 : Int32) ≤ v3 then
      k55 s
    else
      zx_b1 (zX_Values_givingBlocks v3 s) fun r1 =>
      zx_lt ((1 : Int32) ||| (r1 &&& (s 11 6))) fun v4_2 =>
      zx_b1 (zX_Graph_closure_2 v4_2 (0 : Int32) s) fun r3 =>
      zx_b1 (zX_Graph_union_2 r3 s) fun r4 =>
      zx_ck v3 10 <|
      zx_ls (zx_su s 31 (v3).toNatClampNeg r4) fun s5 =>
      zx_lt (v3 + (1 : Int32)) fun v3_6 =>
      (zX_Values_placeChoices_L2 k55 n) v3_6 s5
def zX_Values_placeChoices (s : zx_S) : Option zx_S :=
  zX_Values_placeChoices_L2
    (fun s7 =>
      some s7)
    10000 (0 : Int32) s
def zX_Arrays_fill_4_L5 (v1 v3 : Int32) (k20 : zx_S → Option zx_S) : Nat → Int32 → zx_S → Option zx_S
  | 0, _, _ => none
  | n + 1, v2, s =>
    if v3 ≤ v2 then
      k20 s
    else
      zx_ck v2 16 <|
      zx_ls (zx_su s 30 (v2).toNatClampNeg v1) fun s1 =>
      zx_lt (v2 + (1 : Int32)) fun v2_2 =>
      (zX_Arrays_fill_4_L5 v1 v3 k20 n) v2_2 s1
def zX_Arrays_fill_4 (p1 : Int32) (s : zx_S) : Option zx_S :=
  zX_Arrays_fill_4_L5 p1 (16 : Int32)
    (fun s3 =>
      some s3)
    10000 (0 : Int32) s
def zX_Arrays_fill_5_L5 (v1 v3 : Int32) (k20 : zx_S → Option zx_S) : Nat → Int32 → zx_S → Option zx_S
  | 0, _, _ => none
  | n + 1, v2, s =>
    if v3 ≤ v2 then
      k20 s
    else
      zx_ck v2 100 <|
      zx_ls (zx_su s 28 (v2).toNatClampNeg v1) fun s1 =>
      zx_lt (v2 + (1 : Int32)) fun v2_2 =>
      (zX_Arrays_fill_5_L5 v1 v3 k20 n) v2_2 s1
def zX_Arrays_fill_5 (p1 : Int32) (s : zx_S) : Option zx_S :=
  zX_Arrays_fill_5_L5 p1 (100 : Int32)
    (fun s3 =>
      some s3)
    10000 (0 : Int32) s
def zX_Graph_reaches (p1 : Int32) (s : zx_S) : Option Int32 :=
  if p1 < (0 : Int32) then
    some (0 : Int32)
  else
    if (16 : Int32) ≤ p1 then
      some (0 : Int32)
    else
      zx_b1 (zX_Graph_isIn (s 11 6) p1 s) fun r1 =>
      if r1 = (0 : Int32) then
        some (0 : Int32)
      else
        some (1 : Int32)
def zX_Integer_bitCount (p0 : Int32) (s : zx_S) : Option Int32 :=
  zx_lt (p0 - ((p0.toUInt32 >>> ((1 : Int32).toUInt32 &&& Int32.toUInt32 31)).toInt32 &&& (1431655765 : Int32))) fun v0_1 =>
  zx_lt ((v0_1 &&& (858993459 : Int32)) + ((v0_1.toUInt32 >>> ((2 : Int32).toUInt32 &&& Int32.toUInt32 31)).toInt32 &&& (858993459 : Int32))) fun v0_2 =>
  zx_lt ((v0_2 + (v0_2.toUInt32 >>> ((4 : Int32).toUInt32 &&& Int32.toUInt32 31)).toInt32) &&& (252645135 : Int32)) fun v0_3 =>
  zx_lt (v0_3 + (v0_3.toUInt32 >>> ((8 : Int32).toUInt32 &&& Int32.toUInt32 31)).toInt32) fun v0_4 =>
  zx_lt (v0_4 + (v0_4.toUInt32 >>> ((16 : Int32).toUInt32 &&& Int32.toUInt32 31)).toInt32) fun v0_5 =>
  some (v0_5 &&& (63 : Int32))
def zX_Values_add_J71 (v5 t1 t2 : Int32) (s : zx_S) : Option zx_S :=
  zx_lt (t2 + v5) fun x5 =>
  zx_ck t1 262 <|
  zx_ls (zx_su s 23 (t1).toNatClampNeg x5) fun s6 =>
  zx_lt ((s6 18 11) + (1 : Int32)) fun x7 =>
  zx_ls (zx_su s6 18 11 x7) fun s8 =>
  some s8
def zX_Values_add (p1 p2 p3 p4 p5 : Int32) (s : zx_S) : Option zx_S :=
  zx_ck (s 18 11) 261 <|
  zx_ls (zx_su s 19 ((s 18 11)).toNatClampNeg p1) fun s1 =>
  zx_ck (s1 18 11) 261 <|
  zx_ls (zx_su s1 20 ((s1 18 11)).toNatClampNeg p2) fun s2 =>
  zx_ck (s2 18 11) 261 <|
  zx_ls (zx_su s2 21 ((s2 18 11)).toNatClampNeg p3) fun s3 =>
  zx_ck (s3 18 11) 261 <|
  zx_ls (zx_su s3 22 ((s3 18 11)).toNatClampNeg p4) fun s4 =>
  if (s4 18 11) = (0 : Int32) then
    (zX_Values_add_J71) p5 ((s4 18 11) + (1 : Int32)) (0 : Int32) s4
  else
    zx_ck (s4 18 11) 262 <|
    (zX_Values_add_J71) p5 ((s4 18 11) + (1 : Int32)) (s4 23 ((s4 18 11)).toNatClampNeg) s4
def zX_Values_numberChoices_L33 (v2 v3 : Int32) (k81 : zx_S → Option zx_S) : Nat → Int32 → zx_S → Option zx_S
  | 0, _, _ => none
  | n + 1, v4, s =>
    if (10 : Int32) ≤ v4 then
      k81 s
    else
      zx_ck v4 10 <|
      zx_b1 (zX_Graph_isIn (s 31 (v4).toNatClampNeg) v2 s) fun r5 =>
      if r5 = (0 : Int32) then
        zx_lt (v4 + (1 : Int32)) fun v4_10 =>
        (zX_Values_numberChoices_L33 v2 v3 k81 n) v4_10 s
      else
        zx_b1 (zX_Values_add (15 : Int32) v2 v4 (-1 : Int32) v3 s) fun s6 =>
        zx_ck v2 16 <|
        zx_lt ((s6 30 (v2).toNatClampNeg) + (1 : Int32)) fun x7 =>
        zx_ck v2 16 <|
        zx_ls (zx_su s6 30 (v2).toNatClampNeg x7) fun s8 =>
        zx_lt (v4 + (1 : Int32)) fun v4_9 =>
        (zX_Values_numberChoices_L33 v2 v3 k81 n) v4_9 s8
def zX_Values_numberChoices_J18 (v2 t0 t1 : Int32) (s : zx_S) : Option zx_S :=
  zx_lt (t0 + t1) fun v3_2 =>
  zx_lt (s 18 11) fun x3 =>
  zx_ck v2 16 <|
  zx_ls (zx_su s 29 (v2).toNatClampNeg x3) fun s4 =>
  zX_Values_numberChoices_L33 v2 v3_2
    (fun s11 =>
      some s11)
    10000 (0 : Int32) s4
def zX_Values_numberChoices (p2 : Int32) (s : zx_S) : Option zx_S :=
  zx_ck p2 16 <|
  zx_b1 (zX_Integer_bitCount (s 13 (p2).toNatClampNeg) s) fun r1 =>
  if p2 = (0 : Int32) then
    (zX_Values_numberChoices_J18) p2 r1 (1 : Int32) s
  else
    (zX_Values_numberChoices_J18) p2 r1 (0 : Int32) s
def zX_Values_numberInstructions_L7 (v2 : Int32) (k108 : zx_S → Option zx_S) : Nat → Int32 → zx_S → Option zx_S
  | 0, _, _ => none
  | n + 1, v3, s =>
    zx_ck (v2 + (1 : Int32)) 17 <|
    if (s 2 ((v2 + (1 : Int32))).toNatClampNeg) ≤ v3 then
      k108 s
    else
      zx_ck v3 100 <|
      zx_lt (s 3 (v3).toNatClampNeg) fun v4_2 =>
      if v4_2 = (2 : Int32) then
        zx_lt (v3 + (1 : Int32)) fun v3_12 =>
        (zX_Values_numberInstructions_L7 v2 k108 n) v3_12 s
      else
        if v4_2 = (14 : Int32) then
          zx_lt (v3 + (1 : Int32)) fun v3_3 =>
          (zX_Values_numberInstructions_L7 v2 k108 n) v3_3 s
        else
          zx_lt (s 18 11) fun x4 =>
          zx_ck v3 100 <|
          zx_ls (zx_su s 28 (v3).toNatClampNeg x4) fun s5 =>
          if v4_2 = (0 : Int32) then
            zx_ck v3 100 <|
            zx_ck v3 100 <|
            zx_b1 (zX_Values_add v4_2 v2 (s5 4 (v3).toNatClampNeg) (s5 5 (v3).toNatClampNeg) (0 : Int32) s5) fun s10 =>
            zx_lt (v3 + (1 : Int32)) fun v3_11 =>
            (zX_Values_numberInstructions_L7 v2 k108 n) v3_11 s10
          else
            if v4_2 = (1 : Int32) then
              zx_ck v3 100 <|
              zx_ck v3 100 <|
              zx_b1 (zX_Values_add v4_2 v2 (s5 4 (v3).toNatClampNeg) (s5 5 (v3).toNatClampNeg) (0 : Int32) s5) fun s6 =>
              zx_lt (v3 + (1 : Int32)) fun v3_7 =>
              (zX_Values_numberInstructions_L7 v2 k108 n) v3_7 s6
            else
              zx_ck v3 100 <|
              zx_b1 (zX_Values_add v4_2 v2 (s5 4 (v3).toNatClampNeg) (-1 : Int32) (2 : Int32) s5) fun s8 =>
              zx_lt (v3 + (1 : Int32)) fun v3_9 =>
              (zX_Values_numberInstructions_L7 v2 k108 n) v3_9 s8
def zX_Values_numberInstructions (p2 : Int32) (s : zx_S) : Option zx_S :=
  zx_ck p2 17 <|
  zx_lt (s 2 (p2).toNatClampNeg) fun v3_1 =>
  zX_Values_numberInstructions_L7 p2
    (fun s13 =>
      some s13)
    10000 v3_1 s
def zX_Values_numberAll_L40 (k72 : zx_S → Option zx_S) : Nat → Int32 → zx_S → Option zx_S
  | 0, _, _ => none
  | n + 1, v3, s =>
    if (16 : Int32) ≤ v3 then
      k72 s
    else
      zx_b1 (zX_Graph_reaches v3 s) fun r5 =>
      if r5 = (0 : Int32) then
        zx_lt (v3 + (1 : Int32)) fun v3_9 =>
        (zX_Values_numberAll_L40 k72 n) v3_9 s
      else
        zx_b1 (zX_Values_numberChoices v3 s) fun s6 =>
        zx_b1 (zX_Values_numberInstructions v3 s6) fun s7 =>
        zx_lt (v3 + (1 : Int32)) fun v3_8 =>
        (zX_Values_numberAll_L40 k72 n) v3_8 s7
def zX_Values_numberAll_J38 (s : zx_S) : Option zx_S :=
  zX_Values_numberAll_L40
    (fun s10 =>
      some s10)
    10000 (0 : Int32) s
def zX_Values_numberAll (s : zx_S) : Option zx_S :=
  zx_ls (zx_su s 18 11 (0 : Int32)) fun s1 =>
  zx_b1 (zX_Arrays_fill_4 (0 : Int32) s1) fun s2 =>
  zx_b1 (zX_Arrays_fill_5 (-1 : Int32) s2) fun s3 =>
  zx_b1 (zX_Graph_reaches (0 : Int32) s3) fun r4 =>
  if r4 = (0 : Int32) then
    (zX_Values_numberAll_J38) s3
  else
    zx_b1 (zX_Values_add (0 : Int32) (0 : Int32) (-1 : Int32) (0 : Int32) (0 : Int32) s3) fun s11 =>
    (zX_Values_numberAll_J38) s11
def zX_Values_beginBlock_L16 (v2 v3 v4 : Int32) (k61 : zx_S → Option zx_S) : Nat → Int32 → zx_S → Option zx_S
  | 0, _, _ => none
  | n + 1, v5, s =>
    if (10 : Int32) ≤ v5 then
      k61 s
    else
      if v4 = (-1 : Int32) then
        zx_ck (v3 + v5) 160 <|
        zx_ls (zx_su s 32 ((v3 + v5)).toNatClampNeg (0 : Int32)) fun s3 =>
        zx_lt (v5 + (1 : Int32)) fun v5_4 =>
        (zX_Values_beginBlock_L16 v2 v3 v4 k61 n) v5_4 s3
      else
        zx_ck ((v4 * (10 : Int32)) + v5) 160 <|
        zx_lt (s 32 (((v4 * (10 : Int32)) + v5)).toNatClampNeg) fun x5 =>
        zx_ck (v3 + v5) 160 <|
        zx_ls (zx_su s 32 ((v3 + v5)).toNatClampNeg x5) fun s6 =>
        zx_lt (v5 + (1 : Int32)) fun v5_7 =>
        (zX_Values_beginBlock_L16 v2 v3 v4 k61 n) v5_7 s6
def zX_Values_beginBlock_L69 (v2 v3 : Int32) (k109 : zx_S → Option zx_S) : Nat → Int32 → zx_S → Option zx_S
  | 0, _, _ => none
  | n + 1, v5, s =>
    zx_ck v2 16 <|
    zx_ck v2 16 <|
    if ((s 29 (v2).toNatClampNeg) + (s 30 (v2).toNatClampNeg)) ≤ v5 then
      k109 s
    else
      zx_ck v5 261 <|
      zx_ck (v3 + (s 21 (v5).toNatClampNeg)) 160 <|
      zx_ls (zx_su s 32 ((v3 + (s 21 (v5).toNatClampNeg))).toNatClampNeg v5) fun s10 =>
      zx_lt (v5 + (1 : Int32)) fun v5_11 =>
      (zX_Values_beginBlock_L69 v2 v3 k109 n) v5_11 s10
def zX_Values_beginBlock (p2 : Int32) (s : zx_S) : Option zx_S :=
  zx_lt (p2 * (10 : Int32)) fun v3_1 =>
  zx_ck p2 16 <|
  zx_lt (s 16 (p2).toNatClampNeg) fun v4_2 =>
  zX_Values_beginBlock_L16 p2 v3_1 v4_2
    (fun s8 =>
      zx_ck p2 16 <|
      zx_lt (s8 29 (p2).toNatClampNeg) fun v5_9 =>
      zX_Values_beginBlock_L69 p2 v3_1
        (fun s12 =>
          some s12)
        10000 v5_9 s8)
    10000 (0 : Int32) s
def zX_Program_endVariable (p1 : Int32) (s : zx_S) : Option Int32 :=
  zx_b1 (zX_Program_endCounts p1 s) fun r1 =>
  if r1 = (0 : Int32) then
    some (0 : Int32)
  else
    zx_ck p1 16 <|
    some (s 8 (p1).toNatClampNeg)
def zX_Values_followBlock_J186 (k13 : Int32 → zx_S → Option zx_S) (v2 v3 v4 v6 : Int32) (s : zx_S) : Option zx_S :=
  zx_ck v4 100 <|
  zx_ck (v3 + (s 4 (v4).toNatClampNeg)) 160 <|
  zx_ls (zx_su s 32 ((v3 + (s 4 (v4).toNatClampNeg))).toNatClampNeg v6) fun s11 =>
  zx_lt (v4 + (1 : Int32)) fun v4_12 =>
  k13 v4_12 s11
def zX_Values_followBlock_L13 (v2 v3 : Int32) (k208 : zx_S → Option zx_S) : Nat → Int32 → zx_S → Option zx_S
  | 0, _, _ => none
  | n + 1, v4, s =>
    zx_ck (v2 + (1 : Int32)) 17 <|
    if (s 2 ((v2 + (1 : Int32))).toNatClampNeg) ≤ v4 then
      k208 s
    else
      zx_ck v4 100 <|
      zx_lt (s 3 (v4).toNatClampNeg) fun v5_3 =>
      if v5_3 = (14 : Int32) then
        zx_ck v4 100 <|
        zx_ck (v3 + (s 5 (v4).toNatClampNeg)) 160 <|
        zx_lt (s 32 ((v3 + (s 5 (v4).toNatClampNeg))).toNatClampNeg) fun x4 =>
        zx_ck v4 100 <|
        zx_ls (zx_su s 26 (v4).toNatClampNeg x4) fun s5 =>
        zx_lt (v4 + (1 : Int32)) fun v4_6 =>
        (zX_Values_followBlock_L13 v2 v3 k208 n) v4_6 s5
      else
        if v5_3 = (2 : Int32) then
          zx_ck v4 100 <|
          zx_ck v4 100 <|
          zx_ck (v3 + (s 5 (v4).toNatClampNeg)) 160 <|
          zx_lt (s 32 ((v3 + (s 5 (v4).toNatClampNeg))).toNatClampNeg) fun x7 =>
          zx_ck (v3 + (s 4 (v4).toNatClampNeg)) 160 <|
          zx_ls (zx_su s 32 ((v3 + (s 4 (v4).toNatClampNeg))).toNatClampNeg x7) fun s8 =>
          zx_lt (v4 + (1 : Int32)) fun v4_9 =>
          (zX_Values_followBlock_L13 v2 v3 k208 n) v4_9 s8
        else
          zx_ck v4 100 <|
          zx_lt (s 28 (v4).toNatClampNeg) fun v6_10 =>
          if v5_3 = (0 : Int32) then
            (zX_Values_followBlock_J186 (zX_Values_followBlock_L13 v2 v3 k208 n)) v2 v3 v4 v6_10 s
          else
            if v5_3 = (1 : Int32) then
              (zX_Values_followBlock_J186 (zX_Values_followBlock_L13 v2 v3 k208 n)) v2 v3 v4 v6_10 s
            else
              zx_ck v6_10 262 <|
              zx_ck v4 100 <|
              zx_ck (v3 + (s 5 (v4).toNatClampNeg)) 160 <|
              zx_lt (s 32 ((v3 + (s 5 (v4).toNatClampNeg))).toNatClampNeg) fun x13 =>
              zx_ck (s 23 (v6_10).toNatClampNeg) 530 <|
              zx_ls (zx_su s 25 ((s 23 (v6_10).toNatClampNeg)).toNatClampNeg x13) fun s14 =>
              zx_ck v6_10 262 <|
              zx_ck v4 100 <|
              zx_ck (v3 + (s14 6 (v4).toNatClampNeg)) 160 <|
              zx_lt (s14 32 ((v3 + (s14 6 (v4).toNatClampNeg))).toNatClampNeg) fun x15 =>
              zx_ck ((s14 23 (v6_10).toNatClampNeg) + (1 : Int32)) 530 <|
              zx_ls (zx_su s14 25 (((s14 23 (v6_10).toNatClampNeg) + (1 : Int32))).toNatClampNeg x15) fun s16 =>
              (zX_Values_followBlock_J186 (zX_Values_followBlock_L13 v2 v3 k208 n)) v2 v3 v4 v6_10 s16
def zX_Values_followBlock_J222 (v2 v3 t0 : Int32) (s : zx_S) : Option zx_S :=
  if t0 = (0 : Int32) then
    zx_b1 (zX_Program_endVariable v2 s) fun r20 =>
    zx_ck (v3 + r20) 160 <|
    zx_lt (s 32 ((v3 + r20)).toNatClampNeg) fun x21 =>
    zx_ck v2 16 <|
    zx_ls (zx_su s 27 (v2).toNatClampNeg x21) fun s22 =>
    some s22
  else
    zx_ck v2 16 <|
    zx_ls (zx_su s 27 (v2).toNatClampNeg (-1 : Int32)) fun s19 =>
    some s19
def zX_Values_followBlock (p2 : Int32) (s : zx_S) : Option zx_S :=
  zx_lt (p2 * (10 : Int32)) fun v3_1 =>
  zx_ck p2 17 <|
  zx_lt (s 2 (p2).toNatClampNeg) fun v4_2 =>
  zX_Values_followBlock_L13 p2 v3_1
    (fun s17 =>
      zx_b1 (zX_Program_howCounts p2 s17) fun r18 =>
      if r18 = (1 : Int32) then
        (zX_Values_followBlock_J222) p2 v3_1 (1 : Int32) s17
      else
        (zX_Values_followBlock_J222) p2 v3_1 (0 : Int32) s17)
    10000 v4_2 s
def zX_Values_fillChoice_L10 (v1 v2 : Int32) (k61 : Int32 → zx_S → Option zx_S) : Nat → Int32 → Int32 → zx_S → Option zx_S
  | 0, _, _, _ => none
  | n + 1, v3, v4, s =>
    if (16 : Int32) ≤ v4 then
      k61 v3 s
    else
      zx_b1 (zX_Graph_isIn v2 v4 s) fun r2 =>
      if r2 = (0 : Int32) then
        zx_lt (v4 + (1 : Int32)) fun v4_7 =>
        (zX_Values_fillChoice_L10 v1 v2 k61 n) v3 v4_7 s
      else
        zx_ck v1 261 <|
        zx_ck ((v4 * (10 : Int32)) + (s 21 (v1).toNatClampNeg)) 160 <|
        zx_lt (s 32 (((v4 * (10 : Int32)) + (s 21 (v1).toNatClampNeg))).toNatClampNeg) fun x3 =>
        zx_ck v3 530 <|
        zx_ls (zx_su s 25 (v3).toNatClampNeg x3) fun s4 =>
        zx_lt (v3 + (1 : Int32)) fun v3_5 =>
        zx_lt (v4 + (1 : Int32)) fun v4_6 =>
        (zX_Values_fillChoice_L10 v1 v2 k61 n) v3_5 v4_6 s4
def zX_Values_fillChoice (p1 p2 : Int32) (s : zx_S) : Option zx_S :=
  zx_ck p1 262 <|
  zx_lt (s 23 (p1).toNatClampNeg) fun v3_1 =>
  zX_Values_fillChoice_L10 p1 p2
    (fun v3_8 s9 =>
      zx_ck p1 261 <|
      if (s9 20 (p1).toNatClampNeg) = (0 : Int32) then
        zx_ck v3_8 530 <|
        zx_ls (zx_su s9 25 (v3_8).toNatClampNeg (0 : Int32)) fun s10 =>
        some s10
      else
        some s9)
    10000 v3_1 (0 : Int32) s
def zX_Values_fillChoices_L15 (v2 : Int32) (k49 : zx_S → Option zx_S) : Nat → Int32 → zx_S → Option zx_S
  | 0, _, _ => none
  | n + 1, v3, s =>
    zx_ck v2 16 <|
    zx_ck v2 16 <|
    if ((s 29 (v2).toNatClampNeg) + (s 30 (v2).toNatClampNeg)) ≤ v3 then
      k49 s
    else
      zx_ck v2 16 <|
      zx_b1 (zX_Values_fillChoice v3 (s 13 (v2).toNatClampNeg) s) fun s2 =>
      zx_lt (v3 + (1 : Int32)) fun v3_3 =>
      (zX_Values_fillChoices_L15 v2 k49 n) v3_3 s2
def zX_Values_fillChoices_L2 (k55 : zx_S → Option zx_S) : Nat → Int32 → zx_S → Option zx_S
  | 0, _, _ => none
  | n + 1, v2, s =>
    if (16 : Int32) ≤ v2 then
      k55 s
    else
      zx_ck v2 16 <|
      zx_lt (s 29 (v2).toNatClampNeg) fun v3_1 =>
      zX_Values_fillChoices_L15 v2
        (fun s4 =>
          zx_lt (v2 + (1 : Int32)) fun v2_5 =>
          (zX_Values_fillChoices_L2 k55 n) v2_5 s4)
        10000 v3_1 s
def zX_Values_fillChoices (s : zx_S) : Option zx_S :=
  zX_Values_fillChoices_L2
    (fun s6 =>
      some s6)
    10000 (0 : Int32) s
def zX_Values_make_L23 (v3 : Int32) (k73 : zx_S → Option zx_S) : Nat → Int32 → zx_S → Option zx_S
  | 0, _, _ => none
  | n + 1, v4, s =>
    if (16 : Int32) ≤ v4 then
      k73 s
    else
      zx_b1 (zX_Graph_reaches v4 s) fun r3 =>
      if r3 = (0 : Int32) then
        zx_lt (v4 + (1 : Int32)) fun v4_9 =>
        (zX_Values_make_L23 v3 k73 n) v4_9 s
      else
        zx_ck v4 16 <|
        zx_b1 (zX_Integer_bitCount (s 15 (v4).toNatClampNeg) s) fun r4 =>
        if r4 = v3 then
          zx_b1 (zX_Values_beginBlock v4 s) fun s5 =>
          zx_b1 (zX_Values_followBlock v4 s5) fun s6 =>
          zx_lt (v4 + (1 : Int32)) fun v4_7 =>
          (zX_Values_make_L23 v3 k73 n) v4_7 s6
        else
          zx_lt (v4 + (1 : Int32)) fun v4_8 =>
          (zX_Values_make_L23 v3 k73 n) v4_8 s
def zX_Values_make_L14 (k79 : zx_S → Option zx_S) : Nat → Int32 → zx_S → Option zx_S
  | 0, _, _ => none
  | n + 1, v3, s =>
    if (16 : Int32) < v3 then
      k79 s
    else
      zX_Values_make_L23 v3
        (fun s10 =>
          zx_lt (v3 + (1 : Int32)) fun v3_11 =>
          (zX_Values_make_L14 k79 n) v3_11 s10)
        10000 (0 : Int32) s
def zX_Values_make (s : zx_S) : Option zx_S :=
  zx_b1 (zX_Values_placeChoices s) fun s1 =>
  zx_b1 (zX_Values_numberAll s1) fun s2 =>
  zX_Values_make_L14
    (fun s12 =>
      zx_b1 (zX_Values_fillChoices s12) fun s13 =>
      some s13)
    10000 (1 : Int32) s2
def zX_Classes_alike (p1 p2 : Int32) (s : zx_S) : Option Int32 :=
  zx_ck p1 261 <|
  zx_ck p2 261 <|
  if (s 19 (p1).toNatClampNeg) = (s 19 (p2).toNatClampNeg) then
    zx_ck p1 261 <|
    zx_ck p2 261 <|
    if (s 22 (p1).toNatClampNeg) = (s 22 (p2).toNatClampNeg) then
      zx_ck p1 261 <|
      if (s 19 (p1).toNatClampNeg) = (15 : Int32) then
        zx_ck p1 261 <|
        zx_ck p2 261 <|
        if (s 20 (p1).toNatClampNeg) = (s 20 (p2).toNatClampNeg) then
          some (1 : Int32)
        else
          some (0 : Int32)
      else
        some (1 : Int32)
    else
      some (0 : Int32)
  else
    some (0 : Int32)
def zX_Classes_leastAlike_L2 (v2 : Int32) (s : zx_S) (k26 : Int32 → Option Int32) : Nat → Int32 → Option Int32
  | 0, _ => none
  | n + 1, v3 =>
    if v2 ≤ v3 then
      some v2
    else
      zx_ck v3 261 <|
      if (s 34 (v3).toNatClampNeg) = v3 then
        zx_b1 (zX_Classes_alike v3 v2 s) fun r1 =>
        if r1 = (0 : Int32) then
          zx_lt (v3 + (1 : Int32)) fun v3_2 =>
          (zX_Classes_leastAlike_L2 v2 s k26 n) v3_2
        else
          k26 v3
      else
        zx_lt (v3 + (1 : Int32)) fun v3_3 =>
        (zX_Classes_leastAlike_L2 v2 s k26 n) v3_3
def zX_Classes_leastAlike (p2 : Int32) (s : zx_S) : Option Int32 :=
  zX_Classes_leastAlike_L2 p2 s
    (fun v3_4 =>
      some v3_4)
    10000 (0 : Int32)
def zX_Values_operandsOf (p1 : Int32) (s : zx_S) : Option Int32 :=
  zx_ck (p1 + (1 : Int32)) 262 <|
  zx_ck p1 262 <|
  some ((s 23 ((p1 + (1 : Int32))).toNatClampNeg) - (s 23 (p1).toNatClampNeg))
def zX_Classes_together (p2 p3 : Int32) (s : zx_S) : Option Int32 :=
  zx_ck p2 530 <|
  zx_ck (s 25 (p2).toNatClampNeg) 261 <|
  zx_ck p3 530 <|
  zx_ck (s 25 (p3).toNatClampNeg) 261 <|
  if (s 34 ((s 25 (p2).toNatClampNeg)).toNatClampNeg) = (s 34 ((s 25 (p3).toNatClampNeg)).toNatClampNeg) then
    some (1 : Int32)
  else
    some (0 : Int32)
def zX_Classes_isEven (p0 : Int32) (s : zx_S) : Option Int32 :=
  if p0 = (3 : Int32) then
    some (1 : Int32)
  else
    if p0 = (5 : Int32) then
      some (1 : Int32)
    else
      if p0 = (6 : Int32) then
        some (1 : Int32)
      else
        if p0 = (7 : Int32) then
          some (1 : Int32)
        else
          if p0 = (8 : Int32) then
            some (1 : Int32)
          else
            if p0 = (9 : Int32) then
              some (1 : Int32)
            else
              some (0 : Int32)
def zX_Classes_operandsAgree_L29 (v2 v4 v5 v6 : Int32) (s : zx_S) (k64 : Int32 → Option Int32) : Nat → Int32 → Int32 → Option Int32
  | 0, _, _ => none
  | n + 1, v7, v8 =>
    if v6 ≤ v8 then
      k64 v7
    else
      if v7 = (0 : Int32) then
        k64 v7
      else
        zx_b1 (zX_Classes_together (v4 + v8) (v5 + v8) s) fun r4 =>
        zx_lt (v8 + (1 : Int32)) fun v8_5 =>
        (zX_Classes_operandsAgree_L29 v2 v4 v5 v6 s k64 n) r4 v8_5
def zX_Classes_operandsAgree (p2 p3 : Int32) (s : zx_S) : Option Int32 :=
  zx_ck p2 262 <|
  zx_lt (s 23 (p2).toNatClampNeg) fun v4_1 =>
  zx_ck p3 262 <|
  zx_lt (s 23 (p3).toNatClampNeg) fun v5_2 =>
  zx_b1 (zX_Values_operandsOf p2 s) fun r3 =>
  zX_Classes_operandsAgree_L29 p2 v4_1 v5_2 r3 s
    (fun v7_6 =>
      if v7_6 = (0 : Int32) then
        zx_ck p2 261 <|
        zx_b1 (zX_Classes_isEven (s 19 (p2).toNatClampNeg) s) fun r7 =>
        if r7 = (0 : Int32) then
          some (0 : Int32)
        else
          zx_b1 (zX_Classes_together v4_1 (v5_2 + (1 : Int32)) s) fun r8 =>
          if r8 = (0 : Int32) then
            some (0 : Int32)
          else
            zx_b1 (zX_Classes_together (v4_1 + (1 : Int32)) v5_2 s) fun r9 =>
            if r9 = (0 : Int32) then
              some (0 : Int32)
            else
              some (1 : Int32)
      else
        some (1 : Int32))
    10000 (1 : Int32) (0 : Int32)
def zX_Classes_leastTogether_L7 (v2 : Int32) (s : zx_S) (k47 : Int32 → Option Int32) : Nat → Int32 → Option Int32
  | 0, _ => none
  | n + 1, v3 =>
    if v2 ≤ v3 then
      some v2
    else
      zx_ck v3 261 <|
      if (s 35 (v3).toNatClampNeg) = v3 then
        zx_ck v3 261 <|
        zx_ck v2 261 <|
        if (s 34 (v3).toNatClampNeg) = (s 34 (v2).toNatClampNeg) then
          zx_b1 (zX_Classes_operandsAgree v3 v2 s) fun r2 =>
          if r2 = (0 : Int32) then
            zx_lt (v3 + (1 : Int32)) fun v3_3 =>
            (zX_Classes_leastTogether_L7 v2 s k47 n) v3_3
          else
            k47 v3
        else
          zx_lt (v3 + (1 : Int32)) fun v3_4 =>
          (zX_Classes_leastTogether_L7 v2 s k47 n) v3_4
      else
        zx_lt (v3 + (1 : Int32)) fun v3_5 =>
        (zX_Classes_leastTogether_L7 v2 s k47 n) v3_5
def zX_Classes_leastTogether (p2 : Int32) (s : zx_S) : Option Int32 :=
  zx_ck p2 261 <|
  zx_lt (s 34 (p2).toNatClampNeg) fun v3_1 =>
  zX_Classes_leastTogether_L7 p2 s
    (fun v3_6 =>
      some v3_6)
    10000 v3_1
def zX_Classes_partFiner_L4 (k55 : Int32 → zx_S → Option (Int32 × zx_S)) : Nat → Int32 → Int32 → zx_S → Option (Int32 × zx_S)
  | 0, _, _, _ => none
  | n + 1, v2, v3, s =>
    if (s 18 11) ≤ v3 then
      k55 v2 s
    else
      zx_b1 (zX_Classes_leastTogether v3 s) fun r1 =>
      zx_ck v3 261 <|
      zx_ls (zx_su s 35 (v3).toNatClampNeg r1) fun s2 =>
      if v2 = (0 : Int32) then
        zx_ck v3 261 <|
        zx_ck v3 261 <|
        if (s2 35 (v3).toNatClampNeg) = (s2 34 (v3).toNatClampNeg) then
          zx_lt (v3 + (1 : Int32)) fun v3_4 =>
          (zX_Classes_partFiner_L4 k55 n) (0 : Int32) v3_4 s2
        else
          zx_lt (v3 + (1 : Int32)) fun v3_3 =>
          (zX_Classes_partFiner_L4 k55 n) (1 : Int32) v3_3 s2
      else
        zx_lt (v3 + (1 : Int32)) fun v3_5 =>
        (zX_Classes_partFiner_L4 k55 n) (1 : Int32) v3_5 s2
def zX_Classes_partFiner (s : zx_S) : Option (Int32 × zx_S) :=
  zX_Classes_partFiner_L4
    (fun v2_6 s7 =>
      zx_cp s7 35 (0 : Int32) 261 34 (0 : Int32) 261 (s7 18 11) fun s8 =>
      zx_zr v2_6 <| some (v2_6, s8))
    10000 (0 : Int32) (0 : Int32) s
def zX_Classes_part_L2 (k28 : zx_S → Option zx_S) : Nat → Int32 → zx_S → Option zx_S
  | 0, _, _ => none
  | n + 1, v2, s =>
    if (s 18 11) ≤ v2 then
      k28 s
    else
      zx_b1 (zX_Classes_leastAlike v2 s) fun r1 =>
      zx_ck v2 261 <|
      zx_ls (zx_su s 34 (v2).toNatClampNeg r1) fun s2 =>
      zx_lt (v2 + (1 : Int32)) fun v2_3 =>
      (zX_Classes_part_L2 k28 n) v2_3 s2
def zX_Classes_part_L32 (k55 : zx_S → Option zx_S) : Nat → Int32 → Int32 → zx_S → Option zx_S
  | 0, _, _, _ => none
  | n + 1, v2, v3, s =>
    if (261 : Int32) < v3 then
      k55 s
    else
      if v2 = (0 : Int32) then
        k55 s
      else
        zx_b2 (zX_Classes_partFiner s) fun r5 s6 =>
        zx_lt (v3 + (1 : Int32)) fun v3_7 =>
        (zX_Classes_part_L32 k55 n) r5 v3_7 s6
def zX_Classes_part_L62 (k100 : zx_S → Option zx_S) : Nat → Int32 → zx_S → Option zx_S
  | 0, _, _ => none
  | n + 1, v3, s =>
    if (s 18 11) ≤ v3 then
      k100 s
    else
      zx_ck v3 261 <|
      if (s 34 (v3).toNatClampNeg) = v3 then
        zx_lt ((s 33 2) + (1 : Int32)) fun x10 =>
        zx_ls (zx_su s 33 2 x10) fun s11 =>
        zx_lt (v3 + (1 : Int32)) fun v3_12 =>
        (zX_Classes_part_L62 k100 n) v3_12 s11
      else
        zx_lt ((s 33 2) + (0 : Int32)) fun x13 =>
        zx_ls (zx_su s 33 2 x13) fun s14 =>
        zx_lt (v3 + (1 : Int32)) fun v3_15 =>
        (zX_Classes_part_L62 k100 n) v3_15 s14
def zX_Classes_part (s : zx_S) : Option zx_S :=
  zX_Classes_part_L2
    (fun s4 =>
      zX_Classes_part_L32
        (fun s8 =>
          zx_ls (zx_su s8 33 2 (0 : Int32)) fun s9 =>
          zX_Classes_part_L62
            (fun s16 =>
              some s16)
            10000 (0 : Int32) s9)
        10000 (1 : Int32) (0 : Int32) s4)
    10000 (0 : Int32) s
def zX_Leaders_isLed_L20 (v3 v4 v5 : Int32) (s : zx_S) (k82 : Option Int32) : Nat → Int32 → Option Int32
  | 0, _ => none
  | n + 1, v6 =>
    if (s 18 11) ≤ v6 then
      some (0 : Int32)
    else
      zx_ck v6 261 <|
      if (s 34 (v6).toNatClampNeg) = v4 then
        zx_ck v6 261 <|
        if (s 20 (v6).toNatClampNeg) = v5 then
          if v3 ≤ v6 then
            zx_lt (v6 + (1 : Int32)) fun v6_3 =>
            (zX_Leaders_isLed_L20 v3 v4 v5 s k82 n) v6_3
          else
            k82
        else
          zx_ck v6 261 <|
          zx_ck (s 20 (v6).toNatClampNeg) 16 <|
          zx_b1 (zX_Graph_isIn (s 14 ((s 20 (v6).toNatClampNeg)).toNatClampNeg) v5 s) fun r4 =>
          if r4 = (0 : Int32) then
            zx_lt (v6 + (1 : Int32)) fun v6_5 =>
            (zX_Leaders_isLed_L20 v3 v4 v5 s k82 n) v6_5
          else
            k82
      else
        zx_lt (v6 + (1 : Int32)) fun v6_6 =>
        (zX_Leaders_isLed_L20 v3 v4 v5 s k82 n) v6_6
def zX_Leaders_isLed (p3 : Int32) (s : zx_S) : Option Int32 :=
  zx_ck p3 261 <|
  zx_lt (s 34 (p3).toNatClampNeg) fun v4_1 =>
  zx_ck p3 261 <|
  zx_lt (s 20 (p3).toNatClampNeg) fun v5_2 =>
  zX_Leaders_isLed_L20 p3 v4_1 v5_2 s
    (
      some (1 : Int32))
    10000 v4_1
def zX_Leaders_leader_L13 (v4 v5 v6 : Int32) (s : zx_S) (k64 : Int32 → Option Int32) : Nat → Int32 → Option Int32
  | 0, _ => none
  | n + 1, v7 =>
    if (s 18 11) ≤ v7 then
      some v4
    else
      zx_ck v7 261 <|
      if (s 34 (v7).toNatClampNeg) = v6 then
        zx_ck v7 261 <|
        if (s 37 (v7).toNatClampNeg) = (0 : Int32) then
          zx_ck v7 261 <|
          zx_ck (s 20 (v7).toNatClampNeg) 16 <|
          zx_b1 (zX_Graph_isIn (s 14 ((s 20 (v7).toNatClampNeg)).toNatClampNeg) v5 s) fun r2 =>
          if r2 = (0 : Int32) then
            zx_lt (v7 + (1 : Int32)) fun v7_3 =>
            (zX_Leaders_leader_L13 v4 v5 v6 s k64 n) v7_3
          else
            k64 v7
        else
          zx_lt (v7 + (1 : Int32)) fun v7_4 =>
          (zX_Leaders_leader_L13 v4 v5 v6 s k64 n) v7_4
      else
        zx_lt (v7 + (1 : Int32)) fun v7_5 =>
        (zX_Leaders_leader_L13 v4 v5 v6 s k64 n) v7_5
def zX_Leaders_leader (p4 p5 : Int32) (s : zx_S) : Option Int32 :=
  zx_ck p4 261 <|
  zx_lt (s 34 (p4).toNatClampNeg) fun v6_1 =>
  zX_Leaders_leader_L13 p4 p5 v6_1 s
    (fun v7_6 =>
      some v7_6)
    10000 v6_1
def zX_Graph_nthOf_L4 (v0 v1 : Int32) (s : zx_S) (k23 : Int32 → Option Int32) : Nat → Int32 → Int32 → Option Int32
  | 0, _, _ => none
  | n + 1, v2, v3 =>
    if (16 : Int32) ≤ v3 then
      some (-1 : Int32)
    else
      zx_b1 (zX_Graph_isIn v0 v3 s) fun r1 =>
      if r1 = (0 : Int32) then
        zx_lt (v3 + (1 : Int32)) fun v3_4 =>
        (zX_Graph_nthOf_L4 v0 v1 s k23 n) v2 v3_4
      else
        if v2 = v1 then
          k23 v3
        else
          zx_lt (v2 + (1 : Int32)) fun v2_2 =>
          zx_lt (v3 + (1 : Int32)) fun v3_3 =>
          (zX_Graph_nthOf_L4 v0 v1 s k23 n) v2_2 v3_3
def zX_Graph_nthOf (p0 p1 : Int32) (s : zx_S) : Option Int32 :=
  zX_Graph_nthOf_L4 p0 p1 s
    (fun v3_5 =>
      some v3_5)
    10000 (0 : Int32) (0 : Int32)
def zX_Leaders_leadOperands_J76 (k21 : Int32 → zx_S → Option zx_S) (v4 v5 v6 v7 v8 : Int32) (s : zx_S) : Option zx_S :=
  zx_ck (v6 + v7) 530 <|
  zx_lt (s 25 ((v6 + v7)).toNatClampNeg) fun v9_4 =>
  zx_b1 (zX_Leaders_leader v9_4 v8 s) fun r5 =>
  zx_ck (v6 + v7) 530 <|
  zx_ls (zx_su s 39 ((v6 + v7)).toNatClampNeg r5) fun s6 =>
  zx_lt (v7 + (1 : Int32)) fun v7_7 =>
  k21 v7_7 s6
def zX_Leaders_leadOperands_L21 (v4 v5 v6 : Int32) (k121 : zx_S → Option zx_S) : Nat → Int32 → zx_S → Option zx_S
  | 0, _, _ => none
  | n + 1, v7, s =>
    zx_b1 (zX_Values_operandsOf v4 s) fun r3 =>
    if r3 ≤ v7 then
      k121 s
    else
      zx_ck v4 261 <|
      if (s 19 (v4).toNatClampNeg) = (15 : Int32) then
        zx_ck v5 16 <|
        zx_b1 (zX_Graph_nthOf (s 13 (v5).toNatClampNeg) v7 s) fun r8 =>
        if r8 = (-1 : Int32) then
          (zX_Leaders_leadOperands_J76 (zX_Leaders_leadOperands_L21 v4 v5 v6 k121 n)) v4 v5 v6 v7 (0 : Int32) s
        else
          (zX_Leaders_leadOperands_J76 (zX_Leaders_leadOperands_L21 v4 v5 v6 k121 n)) v4 v5 v6 v7 r8 s
      else
        (zX_Leaders_leadOperands_J76 (zX_Leaders_leadOperands_L21 v4 v5 v6 k121 n)) v4 v5 v6 v7 v5 s
def zX_Leaders_leadOperands (p4 : Int32) (s : zx_S) : Option zx_S :=
  zx_ck p4 261 <|
  zx_lt (s 20 (p4).toNatClampNeg) fun v5_1 =>
  zx_ck p4 262 <|
  zx_lt (s 23 (p4).toNatClampNeg) fun v6_2 =>
  zX_Leaders_leadOperands_L21 p4 v5_1 v6_2
    (fun s9 =>
      some s9)
    10000 (0 : Int32) s
def zX_Leaders_leadEmits_L9 (v5 : Int32) (k71 : zx_S → Option zx_S) : Nat → Int32 → zx_S → Option zx_S
  | 0, _, _ => none
  | n + 1, v6, s =>
    zx_ck (v5 + (1 : Int32)) 17 <|
    if (s 2 ((v5 + (1 : Int32))).toNatClampNeg) ≤ v6 then
      k71 s
    else
      zx_ck v6 100 <|
      if (s 3 (v6).toNatClampNeg) = (14 : Int32) then
        zx_ck v6 100 <|
        zx_b1 (zX_Leaders_leader (s 26 (v6).toNatClampNeg) v5 s) fun r2 =>
        zx_ck v6 100 <|
        zx_ls (zx_su s 40 (v6).toNatClampNeg r2) fun s3 =>
        zx_lt (v6 + (1 : Int32)) fun v6_4 =>
        (zX_Leaders_leadEmits_L9 v5 k71 n) v6_4 s3
      else
        zx_lt (v6 + (1 : Int32)) fun v6_5 =>
        (zX_Leaders_leadEmits_L9 v5 k71 n) v6_5 s
def zX_Leaders_leadEmits (p5 : Int32) (s : zx_S) : Option zx_S :=
  zx_ck p5 17 <|
  zx_lt (s 2 (p5).toNatClampNeg) fun v6_1 =>
  zX_Leaders_leadEmits_L9 p5
    (fun s6 =>
      some s6)
    10000 v6_1 s
def zX_Leaders_lead_L8 (k63 : zx_S → Option zx_S) : Nat → Int32 → zx_S → Option zx_S
  | 0, _, _ => none
  | n + 1, v5, s =>
    if (s 18 11) ≤ v5 then
      k63 s
    else
      zx_b1 (zX_Leaders_isLed v5 s) fun r2 =>
      zx_ck v5 261 <|
      zx_ls (zx_su s 37 (v5).toNatClampNeg (vp_nar .boolean r2)) fun s3 =>
      zx_ck v5 261 <|
      if (s3 37 (v5).toNatClampNeg) = (0 : Int32) then
        zx_lt ((s3 36 2) + (0 : Int32)) fun x7 =>
        zx_ls (zx_su s3 36 2 x7) fun s8 =>
        zx_lt (v5 + (1 : Int32)) fun v5_9 =>
        (zX_Leaders_lead_L8 k63 n) v5_9 s8
      else
        zx_lt ((s3 36 2) + (1 : Int32)) fun x4 =>
        zx_ls (zx_su s3 36 2 x4) fun s5 =>
        zx_lt (v5 + (1 : Int32)) fun v5_6 =>
        (zX_Leaders_lead_L8 k63 n) v5_6 s5
def zX_Leaders_lead_L66 (k101 : zx_S → Option zx_S) : Nat → Int32 → zx_S → Option zx_S
  | 0, _, _ => none
  | n + 1, v5, s =>
    if (s 18 11) ≤ v5 then
      k101 s
    else
      zx_ck v5 261 <|
      if (s 37 (v5).toNatClampNeg) = (0 : Int32) then
        zx_b1 (zX_Leaders_leadOperands v5 s) fun s11 =>
        zx_lt (v5 + (1 : Int32)) fun v5_12 =>
        (zX_Leaders_lead_L66 k101 n) v5_12 s11
      else
        zx_lt (v5 + (1 : Int32)) fun v5_13 =>
        (zX_Leaders_lead_L66 k101 n) v5_13 s
def zX_Leaders_lead_L104 (k181 : zx_S → Option zx_S) : Nat → Int32 → zx_S → Option zx_S
  | 0, _, _ => none
  | n + 1, v5, s =>
    if (16 : Int32) ≤ v5 then
      k181 s
    else
      zx_b1 (zX_Graph_reaches v5 s) fun r15 =>
      if r15 = (0 : Int32) then
        zx_lt (v5 + (1 : Int32)) fun v5_23 =>
        (zX_Leaders_lead_L104 k181 n) v5_23 s
      else
        zx_b1 (zX_Leaders_leadEmits v5 s) fun s16 =>
        zx_ck v5 16 <|
        zx_lt (s16 27 (v5).toNatClampNeg) fun v6_17 =>
        if v6_17 = (-1 : Int32) then
          zx_ck v5 16 <|
          zx_ls (zx_su s16 41 (v5).toNatClampNeg (-1 : Int32)) fun s18 =>
          zx_lt (v5 + (1 : Int32)) fun v5_19 =>
          (zX_Leaders_lead_L104 k181 n) v5_19 s18
        else
          zx_b1 (zX_Leaders_leader v6_17 v5 s16) fun r20 =>
          zx_ck v5 16 <|
          zx_ls (zx_su s16 41 (v5).toNatClampNeg r20) fun s21 =>
          zx_lt (v5 + (1 : Int32)) fun v5_22 =>
          (zX_Leaders_lead_L104 k181 n) v5_22 s21
def zX_Leaders_lead (s : zx_S) : Option zx_S :=
  zx_ls (zx_su s 36 2 (0 : Int32)) fun s1 =>
  zX_Leaders_lead_L8
    (fun s10 =>
      zX_Leaders_lead_L66
        (fun s14 =>
          zX_Leaders_lead_L104
            (fun s24 =>
              some s24)
            10000 (0 : Int32) s14)
        10000 (0 : Int32) s10)
    10000 (0 : Int32) s1
def zX_ValueBench_refresh (s : zx_S) : Option zx_S :=
  if (s 0 9) = (0 : Int32) then
    some s
  else
    zx_b1 (zX_Graph_draw s) fun s1 =>
    zx_b1 (zX_Values_make s1) fun s2 =>
    zx_b1 (zX_Classes_part s2) fun s3 =>
    zx_b1 (zX_Leaders_lead s3) fun s4 =>
    zx_ls (zx_su s4 0 9 (0 : Int32)) fun s5 =>
    some s5
def zX_ValueBench_aboutReached (p1 p2 : Int32) (s : zx_S) : Option Int32 :=
  if p2 = (1 : Int32) then
    zx_ck p1 16 <|
    some (s 16 (p1).toNatClampNeg)
  else
    if p2 = (2 : Int32) then
      zx_ck p1 16 <|
      zx_b1 (zX_Integer_bitCount (s 13 (p1).toNatClampNeg) s) fun r2 =>
      some r2
    else
      if p2 = (3 : Int32) then
        some (-1 : Int32)
      else
        if p2 = (4 : Int32) then
          zx_ck p1 16 <|
          some (s 30 (p1).toNatClampNeg)
        else
          if p2 = (5 : Int32) then
            zx_ck p1 16 <|
            zx_b1 (zX_Integer_bitCount (s 17 (p1).toNatClampNeg) s) fun r1 =>
            some r1
          else
            some (-1 : Int32)
def zX_ValueBench_about (p1 p2 : Int32) (s : zx_S) : Option (Int32 × zx_S) :=
  zx_b1 (zX_Program_has p1 s) fun r1 =>
  if r1 = (0 : Int32) then
    some ((-1 : Int32), s)
  else
    zx_b1 (zX_ValueBench_refresh s) fun s2 =>
    if p2 = (0 : Int32) then
      zx_b1 (zX_Graph_reaches p1 s2) fun r6 =>
      if r6 = (0 : Int32) then
        some ((0 : Int32), s2)
      else
        some ((1 : Int32), s2)
    else
      if p2 = (3 : Int32) then
        zx_ck (p1 + (1 : Int32)) 17 <|
        zx_ck p1 17 <|
        some (((s2 2 ((p1 + (1 : Int32))).toNatClampNeg) - (s2 2 (p1).toNatClampNeg)), s2)
      else
        if p2 = (6 : Int32) then
          zx_b1 (zX_Program_howCounts p1 s2) fun r5 =>
          some (r5, s2)
        else
          zx_b1 (zX_Graph_reaches p1 s2) fun r3 =>
          if r3 = (0 : Int32) then
            some ((-1 : Int32), s2)
          else
            zx_b1 (zX_ValueBench_aboutReached p1 p2 s2) fun r4 =>
            some (r4, s2)
def zX_ValueBench_predecessor (p1 p2 : Int32) (s : zx_S) : Option (Int32 × zx_S) :=
  zx_b1 (zX_ValueBench_refresh s) fun s1 =>
  zx_b1 (zX_Graph_reaches p1 s1) fun r2 =>
  if r2 = (0 : Int32) then
    some ((-1 : Int32), s1)
  else
    zx_ck p1 16 <|
    zx_b1 (zX_Graph_nthOf (s1 13 (p1).toNatClampNeg) p2 s1) fun r3 =>
    some (r3, s1)
def zX_ValueBench_dominates (p1 p2 : Int32) (s : zx_S) : Option (Int32 × zx_S) :=
  zx_b1 (zX_ValueBench_refresh s) fun s1 =>
  zx_b1 (zX_Graph_reaches p1 s1) fun r2 =>
  if r2 = (0 : Int32) then
    some ((-1 : Int32), s1)
  else
    zx_b1 (zX_Graph_reaches p2 s1) fun r3 =>
    if r3 = (0 : Int32) then
      some ((-1 : Int32), s1)
    else
      zx_ck p1 16 <|
      zx_b1 (zX_Graph_isIn (s1 14 (p1).toNatClampNeg) p2 s1) fun r4 =>
      if r4 = (0 : Int32) then
        some ((0 : Int32), s1)
      else
        some ((1 : Int32), s1)
def zX_ValueBench_meets (p1 p2 : Int32) (s : zx_S) : Option (Int32 × zx_S) :=
  zx_b1 (zX_ValueBench_refresh s) fun s1 =>
  zx_b1 (zX_Graph_reaches p1 s1) fun r2 =>
  if r2 = (0 : Int32) then
    some ((-1 : Int32), s1)
  else
    zx_b1 (zX_Graph_reaches p2 s1) fun r3 =>
    if r3 = (0 : Int32) then
      some ((-1 : Int32), s1)
    else
      zx_ck p1 16 <|
      zx_b1 (zX_Graph_isIn (s1 17 (p1).toNatClampNeg) p2 s1) fun r4 =>
      if r4 = (0 : Int32) then
        some ((0 : Int32), s1)
      else
        some ((1 : Int32), s1)
def zX_Values_has (p1 : Int32) (s : zx_S) : Option Int32 :=
  if p1 < (0 : Int32) then
    some (0 : Int32)
  else
    if (s 18 11) ≤ p1 then
      some (0 : Int32)
    else
      some (1 : Int32)
def zX_ValueBench_value (p1 p2 : Int32) (s : zx_S) : Option (Int32 × zx_S) :=
  zx_b1 (zX_ValueBench_refresh s) fun s1 =>
  zx_b1 (zX_Values_has p1 s1) fun r2 =>
  if r2 = (0 : Int32) then
    some ((-1 : Int32), s1)
  else
    if p2 = (0 : Int32) then
      zx_ck p1 261 <|
      some ((s1 19 (p1).toNatClampNeg), s1)
    else
      if p2 = (1 : Int32) then
        zx_ck p1 261 <|
        some ((s1 20 (p1).toNatClampNeg), s1)
      else
        if p2 = (2 : Int32) then
          zx_ck p1 261 <|
          some ((s1 21 (p1).toNatClampNeg), s1)
        else
          if p2 = (3 : Int32) then
            zx_ck p1 261 <|
            some ((s1 34 (p1).toNatClampNeg), s1)
          else
            if p2 = (4 : Int32) then
              zx_ck p1 261 <|
              if (s1 37 (p1).toNatClampNeg) = (0 : Int32) then
                some ((0 : Int32), s1)
              else
                some ((1 : Int32), s1)
            else
              if p2 = (5 : Int32) then
                zx_b1 (zX_Values_operandsOf p1 s1) fun r3 =>
                some (r3, s1)
              else
                if p2 = (6 : Int32) then
                  zx_ck p1 261 <|
                  some ((s1 22 (p1).toNatClampNeg), s1)
                else
                  some ((-1 : Int32), s1)
def zX_Values_hasOperand (p1 p2 : Int32) (s : zx_S) : Option Int32 :=
  zx_b1 (zX_Values_has p1 s) fun r1 =>
  if r1 = (0 : Int32) then
    some (0 : Int32)
  else
    if p2 < (0 : Int32) then
      some (0 : Int32)
    else
      zx_b1 (zX_Values_operandsOf p1 s) fun r2 =>
      if r2 ≤ p2 then
        some (0 : Int32)
      else
        some (1 : Int32)
def zX_ValueBench_operand (p1 p2 : Int32) (s : zx_S) : Option (Int32 × zx_S) :=
  zx_b1 (zX_ValueBench_refresh s) fun s1 =>
  zx_b1 (zX_Values_hasOperand p1 p2 s1) fun r2 =>
  if r2 = (0 : Int32) then
    some ((-1 : Int32), s1)
  else
    zx_ck p1 262 <|
    zx_ck ((s1 23 (p1).toNatClampNeg) + p2) 530 <|
    some ((s1 25 (((s1 23 (p1).toNatClampNeg) + p2)).toNatClampNeg), s1)
def zX_ValueBench_led (p1 p2 : Int32) (s : zx_S) : Option (Int32 × zx_S) :=
  zx_b1 (zX_ValueBench_refresh s) fun s1 =>
  zx_b1 (zX_Values_hasOperand p1 p2 s1) fun r2 =>
  if r2 = (0 : Int32) then
    some ((-1 : Int32), s1)
  else
    zx_ck p1 261 <|
    if (s1 37 (p1).toNatClampNeg) = (0 : Int32) then
      zx_ck p1 262 <|
      zx_ck ((s1 23 (p1).toNatClampNeg) + p2) 530 <|
      some ((s1 39 (((s1 23 (p1).toNatClampNeg) + p2)).toNatClampNeg), s1)
    else
      some ((-1 : Int32), s1)
def zX_ValueBench_classOf (p1 : Int32) (s : zx_S) : Option (Int32 × zx_S) :=
  zx_b1 (zX_ValueBench_refresh s) fun s1 =>
  zx_b1 (zX_Values_has p1 s1) fun r2 =>
  if r2 = (0 : Int32) then
    some ((-1 : Int32), s1)
  else
    zx_ck p1 261 <|
    some ((s1 34 (p1).toNatClampNeg), s1)
def zX_ValueBench_read (p1 p2 : Int32) (s : zx_S) : Option (Int32 × zx_S) :=
  zx_b1 (zX_ValueBench_refresh s) fun s1 =>
  zx_b1 (zX_Graph_reaches p1 s1) fun r2 =>
  if r2 = (0 : Int32) then
    some ((-1 : Int32), s1)
  else
    if p2 = (0 : Int32) then
      zx_ck p1 16 <|
      some ((s1 27 (p1).toNatClampNeg), s1)
    else
      zx_ck p1 16 <|
      some ((s1 41 (p1).toNatClampNeg), s1)
def zX_Program_nthEmit_L10 (v1 v2 : Int32) (s : zx_S) (k40 : Int32 → Option Int32) : Nat → Int32 → Int32 → Option Int32
  | 0, _, _ => none
  | n + 1, v3, v4 =>
    zx_ck (v1 + (1 : Int32)) 17 <|
    if (s 2 ((v1 + (1 : Int32))).toNatClampNeg) ≤ v4 then
      some (-1 : Int32)
    else
      zx_ck v4 100 <|
      if (s 3 (v4).toNatClampNeg) = (14 : Int32) then
        if v3 = v2 then
          k40 v4
        else
          zx_lt (v3 + (1 : Int32)) fun v3_2 =>
          zx_lt (v4 + (1 : Int32)) fun v4_3 =>
          (zX_Program_nthEmit_L10 v1 v2 s k40 n) v3_2 v4_3
      else
        zx_lt (v4 + (1 : Int32)) fun v4_4 =>
        (zX_Program_nthEmit_L10 v1 v2 s k40 n) v3 v4_4
def zX_Program_nthEmit (p1 p2 : Int32) (s : zx_S) : Option Int32 :=
  zx_ck p1 17 <|
  zx_lt (s 2 (p1).toNatClampNeg) fun v4_1 =>
  zX_Program_nthEmit_L10 p1 p2 s
    (fun v4_5 =>
      some v4_5)
    10000 (0 : Int32) v4_1
def zX_ValueBench_emits (p1 p2 p3 : Int32) (s : zx_S) : Option (Int32 × zx_S) :=
  zx_b1 (zX_ValueBench_refresh s) fun s1 =>
  zx_b1 (zX_Graph_reaches p1 s1) fun r2 =>
  if r2 = (0 : Int32) then
    some ((-1 : Int32), s1)
  else
    zx_b1 (zX_Program_nthEmit p1 p2 s1) fun r3 =>
    if r3 = (-1 : Int32) then
      some ((-1 : Int32), s1)
    else
      if p3 = (0 : Int32) then
        zx_ck r3 100 <|
        some ((s1 26 (r3).toNatClampNeg), s1)
      else
        zx_ck r3 100 <|
        some ((s1 40 (r3).toNatClampNeg), s1)
def zX_Machine_takeInputs (p1 p2 p3 p4 : Int32) (s : zx_S) : Option zx_S :=
  zx_ck (0 : Int32) 4 <|
  zx_ls (zx_su s 51 ((0 : Int32)).toNatClampNeg p1) fun s1 =>
  zx_ck (1 : Int32) 4 <|
  zx_ls (zx_su s1 51 ((1 : Int32)).toNatClampNeg p2) fun s2 =>
  zx_ck (2 : Int32) 4 <|
  zx_ls (zx_su s2 51 ((2 : Int32)).toNatClampNeg p3) fun s3 =>
  zx_ck (3 : Int32) 4 <|
  zx_ls (zx_su s3 51 ((3 : Int32)).toNatClampNeg p4) fun s4 =>
  some s4
def zX_Arrays_fill_6_L5 (v1 v3 : Int32) (k20 : zx_S → Option zx_S) : Nat → Int32 → zx_S → Option zx_S
  | 0, _, _ => none
  | n + 1, v2, s =>
    if v3 ≤ v2 then
      k20 s
    else
      zx_ck v2 10 <|
      zx_ls (zx_su s 43 (v2).toNatClampNeg v1) fun s1 =>
      zx_lt (v2 + (1 : Int32)) fun v2_2 =>
      (zX_Arrays_fill_6_L5 v1 v3 k20 n) v2_2 s1
def zX_Arrays_fill_6 (p1 : Int32) (s : zx_S) : Option zx_S :=
  zX_Arrays_fill_6_L5 p1 (10 : Int32)
    (fun s3 =>
      some s3)
    10000 (0 : Int32) s
def zX_ToldForm_begin (p1 p2 : Int32) (s : zx_S) : Option zx_S :=
  if p1 = (-1 : Int32) then
    zx_b1 (zX_Arrays_fill_6 (0 : Int32) s) fun s1 =>
    some s1
  else
    some s
def zX_ToldForm_keeps (p1 : Int32) (s : zx_S) : Option Int32 :=
  some (1 : Int32)
def zX_Machine_pay (s : zx_S) : Option (Int32 × zx_S) :=
  if (s 50 5) < (s 50 3) then
    zx_lt ((s 50 5) + (1 : Int32)) fun x1 =>
    zx_ls (zx_su s 50 5 x1) fun s2 =>
    some ((1 : Int32), s2)
  else
    some ((0 : Int32), s)
def zX_ToldForm_target (p1 : Int32) (s : zx_S) : Option Int32 :=
  zx_ck p1 100 <|
  some (s 4 (p1).toNatClampNeg)
def zX_ToldForm_left (p1 : Int32) (s : zx_S) : Option Int32 :=
  zx_ck p1 100 <|
  some (s 5 (p1).toNatClampNeg)
def zX_ToldForm_right (p1 : Int32) (s : zx_S) : Option Int32 :=
  zx_ck p1 100 <|
  some (s 6 (p1).toNatClampNeg)
def zX_Machine_divide (p0 p1 : Int32) (s : zx_S) : Option Int32 :=
  if p1 = (0 : Int32) then
    some (0 : Int32)
  else
    if p1 = (-1 : Int32) then
      some (-p0)
    else
      zx_ne p1 <|
      some (p0 / p1)
def zX_Machine_compute (p0 p1 p2 : Int32) (s : zx_S) : Option Int32 :=
  if p0 = (3 : Int32) then
    some (p1 + p2)
  else
    if p0 = (4 : Int32) then
      some (p1 - p2)
    else
      if p0 = (5 : Int32) then
        some (p1 * p2)
      else
        if p0 = (6 : Int32) then
          some (p1 &&& p2)
        else
          if p0 = (7 : Int32) then
            some (p1 ||| p2)
          else
            if p0 = (8 : Int32) then
              some (p1 ^^^ p2)
            else
              if p0 = (9 : Int32) then
                if p1 = p2 then
                  some (1 : Int32)
                else
                  some (0 : Int32)
              else
                if p0 = (10 : Int32) then
                  if p2 ≤ p1 then
                    some (0 : Int32)
                  else
                    some (1 : Int32)
                else
                  if p0 = (11 : Int32) then
                    some (p1 <<< ((p2 &&& (31 : Int32)) &&& 31))
                  else
                    if p0 = (12 : Int32) then
                      some (p1 >>> ((p2 &&& (31 : Int32)) &&& 31))
                    else
                      if p0 = (13 : Int32) then
                        zx_b1 (zX_Machine_divide p1 p2 s) fun r1 =>
                        some r1
                      else
                        some (0 : Int32)
def zX_Machine_tell (p1 : Int32) (s : zx_S) : Option zx_S :=
  if (60 : Int32) ≤ (s 50 6) then
    zx_lt ((s 50 6) + (1 : Int32)) fun x4 =>
    zx_ls (zx_su s 50 6 x4) fun s5 =>
    some s5
  else
    zx_ck (s 50 6) 60 <|
    zx_ls (zx_su s 52 ((s 50 6)).toNatClampNeg p1) fun s1 =>
    zx_lt ((s1 50 6) + (1 : Int32)) fun x2 =>
    zx_ls (zx_su s1 50 6 x2) fun s3 =>
    some s3
def zX_Machine_follow (p2 : Int32) (s : zx_S) : Option zx_S :=
  zx_ck p2 100 <|
  zx_lt (s 3 (p2).toNatClampNeg) fun v4_1 =>
  if v4_1 = (0 : Int32) then
    zx_b1 (zX_ToldForm_target p2 s) fun r16 =>
    zx_ck p2 100 <|
    zx_lt (s 5 (p2).toNatClampNeg) fun x17 =>
    zx_ck r16 10 <|
    zx_ls (zx_su s 43 (r16).toNatClampNeg x17) fun s18 =>
    some s18
  else
    if v4_1 = (1 : Int32) then
      zx_b1 (zX_ToldForm_target p2 s) fun r13 =>
      zx_ck p2 100 <|
      zx_ck (s 5 (p2).toNatClampNeg) 4 <|
      zx_lt (s 51 ((s 5 (p2).toNatClampNeg)).toNatClampNeg) fun x14 =>
      zx_ck r13 10 <|
      zx_ls (zx_su s 43 (r13).toNatClampNeg x14) fun s15 =>
      some s15
    else
      if v4_1 = (2 : Int32) then
        zx_b1 (zX_ToldForm_target p2 s) fun r9 =>
        zx_b1 (zX_ToldForm_left p2 s) fun r10 =>
        zx_ck r10 10 <|
        zx_lt (s 43 (r10).toNatClampNeg) fun x11 =>
        zx_ck r9 10 <|
        zx_ls (zx_su s 43 (r9).toNatClampNeg x11) fun s12 =>
        some s12
      else
        if v4_1 = (14 : Int32) then
          zx_b1 (zX_ToldForm_left p2 s) fun r7 =>
          zx_ck r7 10 <|
          zx_b1 (zX_Machine_tell (s 43 (r7).toNatClampNeg) s) fun s8 =>
          some s8
        else
          zx_b1 (zX_ToldForm_target p2 s) fun r2 =>
          zx_b1 (zX_ToldForm_left p2 s) fun r3 =>
          zx_ck r3 10 <|
          zx_b1 (zX_ToldForm_right p2 s) fun r4 =>
          zx_ck r4 10 <|
          zx_b1 (zX_Machine_compute v4_1 (s 43 (r3).toNatClampNeg) (s 43 (r4).toNatClampNeg) s) fun r5 =>
          zx_ck r2 10 <|
          zx_ls (zx_su s 43 (r2).toNatClampNeg r5) fun s6 =>
          some s6
def zX_Machine_followBlock_L13 (k46 : zx_S → Option (Int32 × zx_S)) : Nat → Int32 → zx_S → Option (Int32 × zx_S)
  | 0, _, _ => none
  | n + 1, v2, s =>
    zx_ck ((s 50 7) + (1 : Int32)) 17 <|
    if (s 2 (((s 50 7) + (1 : Int32))).toNatClampNeg) ≤ v2 then
      some ((1 : Int32), s)
    else
      zx_b1 (zX_ToldForm_keeps v2 s) fun r2 =>
      if r2 = (0 : Int32) then
        zx_lt (v2 + (1 : Int32)) fun v2_7 =>
        (zX_Machine_followBlock_L13 k46 n) v2_7 s
      else
        zx_b2 (zX_Machine_pay s) fun r3 s4 =>
        if r3 = (0 : Int32) then
          k46 s4
        else
          zx_b1 (zX_Machine_follow v2 s4) fun s5 =>
          zx_lt (v2 + (1 : Int32)) fun v2_6 =>
          (zX_Machine_followBlock_L13 k46 n) v2_6 s5
def zX_Machine_followBlock (s : zx_S) : Option (Int32 × zx_S) :=
  zx_ck (s 50 7) 17 <|
  zx_lt (s 2 ((s 50 7)).toNatClampNeg) fun v2_1 =>
  zX_Machine_followBlock_L13
    (fun s8 =>
      some ((0 : Int32), s8))
    10000 v2_1 s
def zX_Program_next (p1 p2 : Int32) (s : zx_S) : Option Int32 :=
  if p2 = (0 : Int32) then
    zx_ck p1 16 <|
    some (s 10 (p1).toNatClampNeg)
  else
    zx_ck p1 16 <|
    some (s 9 (p1).toNatClampNeg)
def zX_ToldForm_endCell (p1 : Int32) (s : zx_S) : Option Int32 :=
  zx_b1 (zX_Program_endVariable p1 s) fun r1 =>
  some r1
def zX_Machine_perform_J94 (k24 : Int32 → Int32 → zx_S → Option (Int32 × zx_S)) (k101 : Int32 → zx_S → Option (Int32 × zx_S)) (v3 v4 t0 : Int32) (s : zx_S) : Option (Int32 × zx_S) :=
  if v4 = (0 : Int32) then
    k101 t0 s
  else
    zx_lt (s 50 7) fun v2_11 =>
    if t0 = (0 : Int32) then
      zx_b1 (zX_Program_next (s 50 7) (0 : Int32) s) fun r15 =>
      zx_ls (zx_su s 50 7 r15) fun s16 =>
      zx_lt (v3 + (1 : Int32)) fun v3_17 =>
      k24 v2_11 v3_17 s16
    else
      zx_b1 (zX_Program_next (s 50 7) (1 : Int32) s) fun r12 =>
      zx_ls (zx_su s 50 7 r12) fun s13 =>
      zx_lt (v3 + (1 : Int32)) fun v3_14 =>
      k24 v2_11 v3_14 s13
def zX_Machine_perform_L24 (k101 : Int32 → zx_S → Option (Int32 × zx_S)) : Nat → Int32 → Int32 → zx_S → Option (Int32 × zx_S)
  | 0, _, _, _ => none
  | n + 1, v2, v3, s =>
    if (s 50 3) < v3 then
      some ((1 : Int32), s)
    else
      zx_b1 (zX_ToldForm_begin v2 (s 50 7) s) fun s5 =>
      zx_b2 (zX_Machine_followBlock s5) fun r6 s7 =>
      if r6 = (0 : Int32) then
        some ((1 : Int32), s7)
      else
        zx_b2 (zX_Machine_pay s7) fun r8 s9 =>
        if r8 = (0 : Int32) then
          some ((1 : Int32), s9)
        else
          zx_b1 (zX_Program_howCounts (s9 50 7) s9) fun r10 =>
          if r10 = (1 : Int32) then
            (zX_Machine_perform_J94 (zX_Machine_perform_L24 k101 n) k101) v3 r10 (0 : Int32) s9
          else
            zx_b1 (zX_ToldForm_endCell (s9 50 7) s9) fun r18 =>
            zx_ck r18 10 <|
            (zX_Machine_perform_J94 (zX_Machine_perform_L24 k101 n) k101) v3 r10 (s9 43 (r18).toNatClampNeg) s9
def zX_Machine_perform (s : zx_S) : Option (Int32 × zx_S) :=
  zx_ls (zx_su s 50 4 (0 : Int32)) fun s1 =>
  zx_ls (zx_su s1 50 5 (0 : Int32)) fun s2 =>
  zx_ls (zx_su s2 50 6 (0 : Int32)) fun s3 =>
  zx_ls (zx_su s3 50 7 (0 : Int32)) fun s4 =>
  zX_Machine_perform_L24
    (fun v5_19 s20 =>
      zx_ls (zx_su s20 50 4 v5_19) fun s21 =>
      some ((0 : Int32), s21))
    10000 (-1 : Int32) (0 : Int32) s4
def zX_ValueForm_goes (p1 : Int32) (s : zx_S) : Option Int32 :=
  some (0 : Int32)
def zX_Graph_placeIn (p0 p1 : Int32) (s : zx_S) : Option Int32 :=
  zx_b1 (zX_Integer_bitCount (p0 &&& (((1 : Int32) <<< (p1 &&& 31)) - (1 : Int32))) s) fun r1 =>
  some r1
def zX_ValueForm_begin_L56 (v3 v4 v6 : Int32) (k116 : zx_S → Option zx_S) : Nat → Int32 → zx_S → Option zx_S
  | 0, _, _ => none
  | n + 1, v7, s =>
    if v3 ≤ v7 then
      k116 s
    else
      zx_b1 (zX_ValueForm_goes (v4 + v7) s) fun r4 =>
      if r4 = (0 : Int32) then
        zx_ck (v4 + v7) 262 <|
        zx_ck ((s 23 ((v4 + v7)).toNatClampNeg) + v6) 530 <|
        zx_ck (s 25 (((s 23 ((v4 + v7)).toNatClampNeg) + v6)).toNatClampNeg) 261 <|
        zx_lt (s 45 ((s 25 (((s 23 ((v4 + v7)).toNatClampNeg) + v6)).toNatClampNeg)).toNatClampNeg) fun x5 =>
        zx_ck v7 10 <|
        zx_ls (zx_su s 46 (v7).toNatClampNeg x5) fun s6 =>
        zx_lt (v7 + (1 : Int32)) fun v7_7 =>
        (zX_ValueForm_begin_L56 v3 v4 v6 k116 n) v7_7 s6
      else
        zx_lt (v7 + (1 : Int32)) fun v7_8 =>
        (zX_ValueForm_begin_L56 v3 v4 v6 k116 n) v7_8 s
def zX_ValueForm_begin_L119 (v3 v4 : Int32) (k160 : zx_S → Option zx_S) : Nat → Int32 → zx_S → Option zx_S
  | 0, _, _ => none
  | n + 1, v7, s =>
    if v3 ≤ v7 then
      k160 s
    else
      zx_b1 (zX_ValueForm_goes (v4 + v7) s) fun r10 =>
      if r10 = (0 : Int32) then
        zx_ck v7 10 <|
        zx_lt (s 46 (v7).toNatClampNeg) fun x11 =>
        zx_ck (v4 + v7) 261 <|
        zx_ls (zx_su s 45 ((v4 + v7)).toNatClampNeg x11) fun s12 =>
        zx_lt (v7 + (1 : Int32)) fun v7_13 =>
        (zX_ValueForm_begin_L119 v3 v4 k160 n) v7_13 s12
      else
        zx_lt (v7 + (1 : Int32)) fun v7_14 =>
        (zX_ValueForm_begin_L119 v3 v4 k160 n) v7_14 s
def zX_ValueForm_begin_J51 (v3 v4 t0 : Int32) (s : zx_S) : Option zx_S :=
  zX_ValueForm_begin_L56 v3 v4 t0
    (fun s9 =>
      zX_ValueForm_begin_L119 v3 v4
        (fun s15 =>
          some s15)
        10000 (0 : Int32) s9)
    10000 (0 : Int32) s
def zX_ValueForm_begin (p1 p2 : Int32) (s : zx_S) : Option zx_S :=
  zx_ck p2 16 <|
  zx_lt (s 30 (p2).toNatClampNeg) fun v3_1 =>
  zx_ck p2 16 <|
  zx_lt (s 29 (p2).toNatClampNeg) fun v4_2 =>
  zx_ck p2 16 <|
  zx_lt (s 13 (p2).toNatClampNeg) fun v5_3 =>
  if p1 = (-1 : Int32) then
    zx_b1 (zX_Integer_bitCount v5_3 s) fun r16 =>
    (zX_ValueForm_begin_J51) v3_1 v4_2 r16 s
  else
    zx_b1 (zX_Graph_placeIn v5_3 p1 s) fun r17 =>
    (zX_ValueForm_begin_J51) v3_1 v4_2 r17 s
def zX_ValueForm_keeps (p1 : Int32) (s : zx_S) : Option Int32 :=
  zx_ck p1 100 <|
  zx_lt (s 28 (p1).toNatClampNeg) fun v2_1 =>
  if v2_1 = (-1 : Int32) then
    zx_ck p1 100 <|
    if (s 3 (p1).toNatClampNeg) = (14 : Int32) then
      some (1 : Int32)
    else
      some (0 : Int32)
  else
    zx_b1 (zX_ValueForm_goes v2_1 s) fun r2 =>
    if r2 = (0 : Int32) then
      some (1 : Int32)
    else
      some (0 : Int32)
def zX_ValueForm_target (p1 : Int32) (s : zx_S) : Option Int32 :=
  zx_ck p1 100 <|
  some (s 28 (p1).toNatClampNeg)
def zX_ValueForm_left (p1 : Int32) (s : zx_S) : Option Int32 :=
  zx_ck p1 100 <|
  if (s 3 (p1).toNatClampNeg) = (14 : Int32) then
    zx_ck p1 100 <|
    some (s 26 (p1).toNatClampNeg)
  else
    zx_ck p1 100 <|
    zx_ck (s 28 (p1).toNatClampNeg) 262 <|
    zx_ck (s 23 ((s 28 (p1).toNatClampNeg)).toNatClampNeg) 530 <|
    some (s 25 ((s 23 ((s 28 (p1).toNatClampNeg)).toNatClampNeg)).toNatClampNeg)
def zX_ValueForm_right (p1 : Int32) (s : zx_S) : Option Int32 :=
  zx_ck p1 100 <|
  zx_ck (s 28 (p1).toNatClampNeg) 262 <|
  zx_ck ((s 23 ((s 28 (p1).toNatClampNeg)).toNatClampNeg) + (1 : Int32)) 530 <|
  some (s 25 (((s 23 ((s 28 (p1).toNatClampNeg)).toNatClampNeg) + (1 : Int32))).toNatClampNeg)
def zX_Machine_follow_2 (p2 : Int32) (s : zx_S) : Option zx_S :=
  zx_ck p2 100 <|
  zx_lt (s 3 (p2).toNatClampNeg) fun v4_1 =>
  if v4_1 = (0 : Int32) then
    zx_b1 (zX_ValueForm_target p2 s) fun r16 =>
    zx_ck p2 100 <|
    zx_lt (s 5 (p2).toNatClampNeg) fun x17 =>
    zx_ck r16 261 <|
    zx_ls (zx_su s 45 (r16).toNatClampNeg x17) fun s18 =>
    some s18
  else
    if v4_1 = (1 : Int32) then
      zx_b1 (zX_ValueForm_target p2 s) fun r13 =>
      zx_ck p2 100 <|
      zx_ck (s 5 (p2).toNatClampNeg) 4 <|
      zx_lt (s 51 ((s 5 (p2).toNatClampNeg)).toNatClampNeg) fun x14 =>
      zx_ck r13 261 <|
      zx_ls (zx_su s 45 (r13).toNatClampNeg x14) fun s15 =>
      some s15
    else
      if v4_1 = (2 : Int32) then
        zx_b1 (zX_ValueForm_target p2 s) fun r9 =>
        zx_b1 (zX_ValueForm_left p2 s) fun r10 =>
        zx_ck r10 261 <|
        zx_lt (s 45 (r10).toNatClampNeg) fun x11 =>
        zx_ck r9 261 <|
        zx_ls (zx_su s 45 (r9).toNatClampNeg x11) fun s12 =>
        some s12
      else
        if v4_1 = (14 : Int32) then
          zx_b1 (zX_ValueForm_left p2 s) fun r7 =>
          zx_ck r7 261 <|
          zx_b1 (zX_Machine_tell (s 45 (r7).toNatClampNeg) s) fun s8 =>
          some s8
        else
          zx_b1 (zX_ValueForm_target p2 s) fun r2 =>
          zx_b1 (zX_ValueForm_left p2 s) fun r3 =>
          zx_ck r3 261 <|
          zx_b1 (zX_ValueForm_right p2 s) fun r4 =>
          zx_ck r4 261 <|
          zx_b1 (zX_Machine_compute v4_1 (s 45 (r3).toNatClampNeg) (s 45 (r4).toNatClampNeg) s) fun r5 =>
          zx_ck r2 261 <|
          zx_ls (zx_su s 45 (r2).toNatClampNeg r5) fun s6 =>
          some s6
def zX_Machine_followBlock_2_L13 (k46 : zx_S → Option (Int32 × zx_S)) : Nat → Int32 → zx_S → Option (Int32 × zx_S)
  | 0, _, _ => none
  | n + 1, v2, s =>
    zx_ck ((s 50 7) + (1 : Int32)) 17 <|
    if (s 2 (((s 50 7) + (1 : Int32))).toNatClampNeg) ≤ v2 then
      some ((1 : Int32), s)
    else
      zx_b1 (zX_ValueForm_keeps v2 s) fun r2 =>
      if r2 = (0 : Int32) then
        zx_lt (v2 + (1 : Int32)) fun v2_7 =>
        (zX_Machine_followBlock_2_L13 k46 n) v2_7 s
      else
        zx_b2 (zX_Machine_pay s) fun r3 s4 =>
        if r3 = (0 : Int32) then
          k46 s4
        else
          zx_b1 (zX_Machine_follow_2 v2 s4) fun s5 =>
          zx_lt (v2 + (1 : Int32)) fun v2_6 =>
          (zX_Machine_followBlock_2_L13 k46 n) v2_6 s5
def zX_Machine_followBlock_2 (s : zx_S) : Option (Int32 × zx_S) :=
  zx_ck (s 50 7) 17 <|
  zx_lt (s 2 ((s 50 7)).toNatClampNeg) fun v2_1 =>
  zX_Machine_followBlock_2_L13
    (fun s8 =>
      some ((0 : Int32), s8))
    10000 v2_1 s
def zX_ValueForm_endCell (p1 : Int32) (s : zx_S) : Option Int32 :=
  zx_ck p1 16 <|
  some (s 27 (p1).toNatClampNeg)
def zX_Machine_perform_2_J94 (k24 : Int32 → Int32 → zx_S → Option (Int32 × zx_S)) (k101 : Int32 → zx_S → Option (Int32 × zx_S)) (v3 v4 t0 : Int32) (s : zx_S) : Option (Int32 × zx_S) :=
  if v4 = (0 : Int32) then
    k101 t0 s
  else
    zx_lt (s 50 7) fun v2_11 =>
    if t0 = (0 : Int32) then
      zx_b1 (zX_Program_next (s 50 7) (0 : Int32) s) fun r15 =>
      zx_ls (zx_su s 50 7 r15) fun s16 =>
      zx_lt (v3 + (1 : Int32)) fun v3_17 =>
      k24 v2_11 v3_17 s16
    else
      zx_b1 (zX_Program_next (s 50 7) (1 : Int32) s) fun r12 =>
      zx_ls (zx_su s 50 7 r12) fun s13 =>
      zx_lt (v3 + (1 : Int32)) fun v3_14 =>
      k24 v2_11 v3_14 s13
def zX_Machine_perform_2_L24 (k101 : Int32 → zx_S → Option (Int32 × zx_S)) : Nat → Int32 → Int32 → zx_S → Option (Int32 × zx_S)
  | 0, _, _, _ => none
  | n + 1, v2, v3, s =>
    if (s 50 3) < v3 then
      some ((1 : Int32), s)
    else
      zx_b1 (zX_ValueForm_begin v2 (s 50 7) s) fun s5 =>
      zx_b2 (zX_Machine_followBlock_2 s5) fun r6 s7 =>
      if r6 = (0 : Int32) then
        some ((1 : Int32), s7)
      else
        zx_b2 (zX_Machine_pay s7) fun r8 s9 =>
        if r8 = (0 : Int32) then
          some ((1 : Int32), s9)
        else
          zx_b1 (zX_Program_howCounts (s9 50 7) s9) fun r10 =>
          if r10 = (1 : Int32) then
            (zX_Machine_perform_2_J94 (zX_Machine_perform_2_L24 k101 n) k101) v3 r10 (0 : Int32) s9
          else
            zx_b1 (zX_ValueForm_endCell (s9 50 7) s9) fun r18 =>
            zx_ck r18 261 <|
            (zX_Machine_perform_2_J94 (zX_Machine_perform_2_L24 k101 n) k101) v3 r10 (s9 45 (r18).toNatClampNeg) s9
def zX_Machine_perform_2 (s : zx_S) : Option (Int32 × zx_S) :=
  zx_ls (zx_su s 50 4 (0 : Int32)) fun s1 =>
  zx_ls (zx_su s1 50 5 (0 : Int32)) fun s2 =>
  zx_ls (zx_su s2 50 6 (0 : Int32)) fun s3 =>
  zx_ls (zx_su s3 50 7 (0 : Int32)) fun s4 =>
  zX_Machine_perform_2_L24
    (fun v5_19 s20 =>
      zx_ls (zx_su s20 50 4 v5_19) fun s21 =>
      some ((0 : Int32), s21))
    10000 (-1 : Int32) (0 : Int32) s4
def zX_ValueForm_goes_2 (p1 : Int32) (s : zx_S) : Option Int32 :=
  zx_ck p1 261 <|
  if (s 37 (p1).toNatClampNeg) = (0 : Int32) then
    some (0 : Int32)
  else
    some (1 : Int32)
def zX_ValueForm_begin_2_L56 (v3 v4 v6 : Int32) (k116 : zx_S → Option zx_S) : Nat → Int32 → zx_S → Option zx_S
  | 0, _, _ => none
  | n + 1, v7, s =>
    if v3 ≤ v7 then
      k116 s
    else
      zx_b1 (zX_ValueForm_goes_2 (v4 + v7) s) fun r4 =>
      if r4 = (0 : Int32) then
        zx_ck (v4 + v7) 262 <|
        zx_ck ((s 23 ((v4 + v7)).toNatClampNeg) + v6) 530 <|
        zx_ck (s 39 (((s 23 ((v4 + v7)).toNatClampNeg) + v6)).toNatClampNeg) 261 <|
        zx_lt (s 48 ((s 39 (((s 23 ((v4 + v7)).toNatClampNeg) + v6)).toNatClampNeg)).toNatClampNeg) fun x5 =>
        zx_ck v7 10 <|
        zx_ls (zx_su s 49 (v7).toNatClampNeg x5) fun s6 =>
        zx_lt (v7 + (1 : Int32)) fun v7_7 =>
        (zX_ValueForm_begin_2_L56 v3 v4 v6 k116 n) v7_7 s6
      else
        zx_lt (v7 + (1 : Int32)) fun v7_8 =>
        (zX_ValueForm_begin_2_L56 v3 v4 v6 k116 n) v7_8 s
def zX_ValueForm_begin_2_L119 (v3 v4 : Int32) (k160 : zx_S → Option zx_S) : Nat → Int32 → zx_S → Option zx_S
  | 0, _, _ => none
  | n + 1, v7, s =>
    if v3 ≤ v7 then
      k160 s
    else
      zx_b1 (zX_ValueForm_goes_2 (v4 + v7) s) fun r10 =>
      if r10 = (0 : Int32) then
        zx_ck v7 10 <|
        zx_lt (s 49 (v7).toNatClampNeg) fun x11 =>
        zx_ck (v4 + v7) 261 <|
        zx_ls (zx_su s 48 ((v4 + v7)).toNatClampNeg x11) fun s12 =>
        zx_lt (v7 + (1 : Int32)) fun v7_13 =>
        (zX_ValueForm_begin_2_L119 v3 v4 k160 n) v7_13 s12
      else
        zx_lt (v7 + (1 : Int32)) fun v7_14 =>
        (zX_ValueForm_begin_2_L119 v3 v4 k160 n) v7_14 s
def zX_ValueForm_begin_2_J51 (v3 v4 t0 : Int32) (s : zx_S) : Option zx_S :=
  zX_ValueForm_begin_2_L56 v3 v4 t0
    (fun s9 =>
      zX_ValueForm_begin_2_L119 v3 v4
        (fun s15 =>
          some s15)
        10000 (0 : Int32) s9)
    10000 (0 : Int32) s
def zX_ValueForm_begin_2 (p1 p2 : Int32) (s : zx_S) : Option zx_S :=
  zx_ck p2 16 <|
  zx_lt (s 30 (p2).toNatClampNeg) fun v3_1 =>
  zx_ck p2 16 <|
  zx_lt (s 29 (p2).toNatClampNeg) fun v4_2 =>
  zx_ck p2 16 <|
  zx_lt (s 13 (p2).toNatClampNeg) fun v5_3 =>
  if p1 = (-1 : Int32) then
    zx_b1 (zX_Integer_bitCount v5_3 s) fun r16 =>
    (zX_ValueForm_begin_2_J51) v3_1 v4_2 r16 s
  else
    zx_b1 (zX_Graph_placeIn v5_3 p1 s) fun r17 =>
    (zX_ValueForm_begin_2_J51) v3_1 v4_2 r17 s
def zX_ValueForm_keeps_2 (p1 : Int32) (s : zx_S) : Option Int32 :=
  zx_ck p1 100 <|
  zx_lt (s 28 (p1).toNatClampNeg) fun v2_1 =>
  if v2_1 = (-1 : Int32) then
    zx_ck p1 100 <|
    if (s 3 (p1).toNatClampNeg) = (14 : Int32) then
      some (1 : Int32)
    else
      some (0 : Int32)
  else
    zx_b1 (zX_ValueForm_goes_2 v2_1 s) fun r2 =>
    if r2 = (0 : Int32) then
      some (1 : Int32)
    else
      some (0 : Int32)
def zX_ValueForm_target_2 (p1 : Int32) (s : zx_S) : Option Int32 :=
  zx_ck p1 100 <|
  some (s 28 (p1).toNatClampNeg)
def zX_ValueForm_left_2 (p1 : Int32) (s : zx_S) : Option Int32 :=
  zx_ck p1 100 <|
  if (s 3 (p1).toNatClampNeg) = (14 : Int32) then
    zx_ck p1 100 <|
    some (s 40 (p1).toNatClampNeg)
  else
    zx_ck p1 100 <|
    zx_ck (s 28 (p1).toNatClampNeg) 262 <|
    zx_ck (s 23 ((s 28 (p1).toNatClampNeg)).toNatClampNeg) 530 <|
    some (s 39 ((s 23 ((s 28 (p1).toNatClampNeg)).toNatClampNeg)).toNatClampNeg)
def zX_ValueForm_right_2 (p1 : Int32) (s : zx_S) : Option Int32 :=
  zx_ck p1 100 <|
  zx_ck (s 28 (p1).toNatClampNeg) 262 <|
  zx_ck ((s 23 ((s 28 (p1).toNatClampNeg)).toNatClampNeg) + (1 : Int32)) 530 <|
  some (s 39 (((s 23 ((s 28 (p1).toNatClampNeg)).toNatClampNeg) + (1 : Int32))).toNatClampNeg)
def zX_Machine_follow_3 (p2 : Int32) (s : zx_S) : Option zx_S :=
  zx_ck p2 100 <|
  zx_lt (s 3 (p2).toNatClampNeg) fun v4_1 =>
  if v4_1 = (0 : Int32) then
    zx_b1 (zX_ValueForm_target_2 p2 s) fun r16 =>
    zx_ck p2 100 <|
    zx_lt (s 5 (p2).toNatClampNeg) fun x17 =>
    zx_ck r16 261 <|
    zx_ls (zx_su s 48 (r16).toNatClampNeg x17) fun s18 =>
    some s18
  else
    if v4_1 = (1 : Int32) then
      zx_b1 (zX_ValueForm_target_2 p2 s) fun r13 =>
      zx_ck p2 100 <|
      zx_ck (s 5 (p2).toNatClampNeg) 4 <|
      zx_lt (s 51 ((s 5 (p2).toNatClampNeg)).toNatClampNeg) fun x14 =>
      zx_ck r13 261 <|
      zx_ls (zx_su s 48 (r13).toNatClampNeg x14) fun s15 =>
      some s15
    else
      if v4_1 = (2 : Int32) then
        zx_b1 (zX_ValueForm_target_2 p2 s) fun r9 =>
        zx_b1 (zX_ValueForm_left_2 p2 s) fun r10 =>
        zx_ck r10 261 <|
        zx_lt (s 48 (r10).toNatClampNeg) fun x11 =>
        zx_ck r9 261 <|
        zx_ls (zx_su s 48 (r9).toNatClampNeg x11) fun s12 =>
        some s12
      else
        if v4_1 = (14 : Int32) then
          zx_b1 (zX_ValueForm_left_2 p2 s) fun r7 =>
          zx_ck r7 261 <|
          zx_b1 (zX_Machine_tell (s 48 (r7).toNatClampNeg) s) fun s8 =>
          some s8
        else
          zx_b1 (zX_ValueForm_target_2 p2 s) fun r2 =>
          zx_b1 (zX_ValueForm_left_2 p2 s) fun r3 =>
          zx_ck r3 261 <|
          zx_b1 (zX_ValueForm_right_2 p2 s) fun r4 =>
          zx_ck r4 261 <|
          zx_b1 (zX_Machine_compute v4_1 (s 48 (r3).toNatClampNeg) (s 48 (r4).toNatClampNeg) s) fun r5 =>
          zx_ck r2 261 <|
          zx_ls (zx_su s 48 (r2).toNatClampNeg r5) fun s6 =>
          some s6
def zX_Machine_followBlock_3_L13 (k46 : zx_S → Option (Int32 × zx_S)) : Nat → Int32 → zx_S → Option (Int32 × zx_S)
  | 0, _, _ => none
  | n + 1, v2, s =>
    zx_ck ((s 50 7) + (1 : Int32)) 17 <|
    if (s 2 (((s 50 7) + (1 : Int32))).toNatClampNeg) ≤ v2 then
      some ((1 : Int32), s)
    else
      zx_b1 (zX_ValueForm_keeps_2 v2 s) fun r2 =>
      if r2 = (0 : Int32) then
        zx_lt (v2 + (1 : Int32)) fun v2_7 =>
        (zX_Machine_followBlock_3_L13 k46 n) v2_7 s
      else
        zx_b2 (zX_Machine_pay s) fun r3 s4 =>
        if r3 = (0 : Int32) then
          k46 s4
        else
          zx_b1 (zX_Machine_follow_3 v2 s4) fun s5 =>
          zx_lt (v2 + (1 : Int32)) fun v2_6 =>
          (zX_Machine_followBlock_3_L13 k46 n) v2_6 s5
def zX_Machine_followBlock_3 (s : zx_S) : Option (Int32 × zx_S) :=
  zx_ck (s 50 7) 17 <|
  zx_lt (s 2 ((s 50 7)).toNatClampNeg) fun v2_1 =>
  zX_Machine_followBlock_3_L13
    (fun s8 =>
      some ((0 : Int32), s8))
    10000 v2_1 s
def zX_ValueForm_endCell_2 (p1 : Int32) (s : zx_S) : Option Int32 :=
  zx_ck p1 16 <|
  some (s 41 (p1).toNatClampNeg)
def zX_Machine_perform_3_J94 (k24 : Int32 → Int32 → zx_S → Option (Int32 × zx_S)) (k101 : Int32 → zx_S → Option (Int32 × zx_S)) (v3 v4 t0 : Int32) (s : zx_S) : Option (Int32 × zx_S) :=
  if v4 = (0 : Int32) then
    k101 t0 s
  else
    zx_lt (s 50 7) fun v2_11 =>
    if t0 = (0 : Int32) then
      zx_b1 (zX_Program_next (s 50 7) (0 : Int32) s) fun r15 =>
      zx_ls (zx_su s 50 7 r15) fun s16 =>
      zx_lt (v3 + (1 : Int32)) fun v3_17 =>
      k24 v2_11 v3_17 s16
    else
      zx_b1 (zX_Program_next (s 50 7) (1 : Int32) s) fun r12 =>
      zx_ls (zx_su s 50 7 r12) fun s13 =>
      zx_lt (v3 + (1 : Int32)) fun v3_14 =>
      k24 v2_11 v3_14 s13
def zX_Machine_perform_3_L24 (k101 : Int32 → zx_S → Option (Int32 × zx_S)) : Nat → Int32 → Int32 → zx_S → Option (Int32 × zx_S)
  | 0, _, _, _ => none
  | n + 1, v2, v3, s =>
    if (s 50 3) < v3 then
      some ((1 : Int32), s)
    else
      zx_b1 (zX_ValueForm_begin_2 v2 (s 50 7) s) fun s5 =>
      zx_b2 (zX_Machine_followBlock_3 s5) fun r6 s7 =>
      if r6 = (0 : Int32) then
        some ((1 : Int32), s7)
      else
        zx_b2 (zX_Machine_pay s7) fun r8 s9 =>
        if r8 = (0 : Int32) then
          some ((1 : Int32), s9)
        else
          zx_b1 (zX_Program_howCounts (s9 50 7) s9) fun r10 =>
          if r10 = (1 : Int32) then
            (zX_Machine_perform_3_J94 (zX_Machine_perform_3_L24 k101 n) k101) v3 r10 (0 : Int32) s9
          else
            zx_b1 (zX_ValueForm_endCell_2 (s9 50 7) s9) fun r18 =>
            zx_ck r18 261 <|
            (zX_Machine_perform_3_J94 (zX_Machine_perform_3_L24 k101 n) k101) v3 r10 (s9 48 (r18).toNatClampNeg) s9
def zX_Machine_perform_3 (s : zx_S) : Option (Int32 × zx_S) :=
  zx_ls (zx_su s 50 4 (0 : Int32)) fun s1 =>
  zx_ls (zx_su s1 50 5 (0 : Int32)) fun s2 =>
  zx_ls (zx_su s2 50 6 (0 : Int32)) fun s3 =>
  zx_ls (zx_su s3 50 7 (0 : Int32)) fun s4 =>
  zX_Machine_perform_3_L24
    (fun v5_19 s20 =>
      zx_ls (zx_su s20 50 4 v5_19) fun s21 =>
      some ((0 : Int32), s21))
    10000 (-1 : Int32) (0 : Int32) s4
def zX_ValueBench_run (p1 p2 p3 p4 p5 : Int32) (s : zx_S) : Option (Int32 × zx_S) :=
  if (s 1 9) = (0 : Int32) then
    some ((-1 : Int32), s)
  else
    if p1 < (0 : Int32) then
      some ((-1 : Int32), s)
    else
      if p1 ≤ (2 : Int32) then
        zx_b1 (zX_ValueBench_refresh s) fun s1 =>
        zx_b1 (zX_Machine_takeInputs p2 p3 p4 p5 s1) fun s2 =>
        if p1 = (0 : Int32) then
          zx_b2 (zX_Machine_perform s2) fun r3 s4 =>
          some (r3, s4)
        else
          if p1 = (1 : Int32) then
            zx_b2 (zX_Machine_perform_2 s2) fun r5 s6 =>
            some (r5, s6)
          else
            zx_b2 (zX_Machine_perform_3 s2) fun r7 s8 =>
            some (r7, s8)
      else
        some ((-1 : Int32), s)
def zX_ValueBench_fuel (p1 : Int32) (s : zx_S) : Option (Int32 × zx_S) :=
  if p1 < (1 : Int32) then
    some ((-1 : Int32), s)
  else
    if p1 ≤ (5000 : Int32) then
      zx_lt (s 50 3) fun v2_1 =>
      zx_ls (zx_su s 50 3 p1) fun s2 =>
      some (v2_1, s2)
    else
      some ((-1 : Int32), s)
def zX_ValueBench_ran (p1 : Int32) (s : zx_S) : Option Int32 :=
  if p1 = (0 : Int32) then
    some (s 50 4)
  else
    if p1 = (1 : Int32) then
      some (s 50 5)
    else
      if p1 = (2 : Int32) then
        some (s 50 6)
      else
        if p1 = (3 : Int32) then
          some (s 50 7)
        else
          some (0 : Int32)
def zX_ValueBench_emitted (p1 : Int32) (s : zx_S) : Option Int32 :=
  if p1 < (0 : Int32) then
    some (0 : Int32)
  else
    if (60 : Int32) ≤ p1 then
      some (0 : Int32)
    else
      if (s 50 6) ≤ p1 then
        some (0 : Int32)
      else
        zx_ck p1 60 <|
        some (s 52 (p1).toNatClampNeg)
def zX_Values_allChoices_L4 (s : zx_S) (k25 : Int32 → Option Int32) : Nat → Int32 → Int32 → Option Int32
  | 0, _, _ => none
  | n + 1, v1, v2 =>
    if (16 : Int32) ≤ v2 then
      k25 v1
    else
      zx_ck v2 16 <|
      zx_lt (v1 + (s 30 (v2).toNatClampNeg)) fun v1_1 =>
      zx_lt (v2 + (1 : Int32)) fun v2_2 =>
      (zX_Values_allChoices_L4 s k25 n) v1_1 v2_2
def zX_Values_allChoices (s : zx_S) : Option Int32 :=
  zX_Values_allChoices_L4 s
    (fun v1_3 =>
      some v1_3)
    10000 (0 : Int32) (0 : Int32)
def zX_ValueBench_count (p1 : Int32) (s : zx_S) : Option (Int32 × zx_S) :=
  zx_b1 (zX_ValueBench_refresh s) fun s1 =>
  if p1 = (0 : Int32) then
    some ((s1 1 9), s1)
  else
    if p1 = (1 : Int32) then
      zx_b1 (zX_Program_instructions s1) fun r4 =>
      some (r4, s1)
    else
      if p1 = (2 : Int32) then
        zx_b1 (zX_Integer_bitCount (s1 11 6) s1) fun r3 =>
        some (r3, s1)
      else
        if p1 = (3 : Int32) then
          some ((s1 18 11), s1)
        else
          if p1 = (4 : Int32) then
            some ((s1 33 2), s1)
          else
            if p1 = (5 : Int32) then
              some ((s1 36 2), s1)
            else
              if p1 = (6 : Int32) then
                zx_b1 (zX_Values_allChoices s1) fun r2 =>
                some (r2, s1)
              else
                some ((-1 : Int32), s1)
