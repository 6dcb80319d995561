/-! what each method does, as an expression: by program from its instructions -/
def g_X0_begin (a0 : Nat) (a1 : Nat) (a2 : Int32) (h : HH) : Option (Unit × HH) :=
  ckH a0 (.inl 5) (
  ckH a1 (.inl 7) (
  pfR h 2 a0 fun h1 =>
  pfR h1 3 a1 fun h2 =>
  pfI h2 193 6 a2 fun h3 =>
  pfI h3 193 7 (-1 : Int32) fun h4 =>
  pfI h4 193 8 (0 : Int32) fun h5 =>
  pfR h5 4 (a0 + 3) fun h6 =>
  some ((), h6)))
def g_X0_rankOf (a0 : Int32) (h : HH) : Option (Int32 × HH) :=
  gfR h 2 fun p1 => ckH p1 (.inl 5) (
  ldI h (p1 + 7) 20 a0 fun v2 =>
  if v2 = (24 : Int32) then
    (some ((0 : Int32), h))
  else
    (gfR h 2 fun p3 => ckH p3 (.inl 5) (
    ldI h (p3 + 10) 20 a0 fun v4 =>
    gfR h 3 fun p5 => ckH p5 (.inl 7) (
    gfR h 2 fun p6 => ckH p6 (.inl 5) (
    ldI h (p6 + 8) 20 a0 fun v7 =>
    ldI h (p5 + 1) 6 v7 fun v8 =>
    jn (fun (y12 : Int32) (h11 : HH) =>
      if v2 = (22 : Int32) then
        (if y12 = 0 then
          (some ((2 : Int32), h11))
        else
          (some ((1 : Int32), h11)))
      else
        (some ((2 : Int32), h11))) fun j9 =>
    if v4 < v8 then
      (j9 (1 : Int32) h)
    else
      (j9 (0 : Int32) h))))))
def g_X0_comesFirst (a0 : Int32) (a1 : Int32) (h : HH) : Option (Int32 × HH) :=
  bnd (g_X0_rankOf a0 h) fun r2 h1 => 
  bnd (g_X0_rankOf a1 h1) fun r4 h3 => 
  if r2 = r4 then
    (gfR h3 4 fun p5 => ckH p5 (.inr (0, 6, 0)) (
    gfR h3 2 fun p6 => ckH p6 (.inl 5) (
    ldI h3 (p6 + 8) 20 a0 fun v7 =>
    ldI h3 p5 6 v7 fun v8 =>
    gfR h3 4 fun p9 => ckH p9 (.inr (0, 6, 0)) (
    gfR h3 2 fun p10 => ckH p10 (.inl 5) (
    ldI h3 (p10 + 8) 20 a1 fun v11 =>
    ldI h3 p9 6 v11 fun v12 =>
    if v12 < v8 then
      (some ((1 : Int32), h3))
    else
      (some ((0 : Int32), h3)))))))
  else
    (if r2 < r4 then
      (some ((1 : Int32), h3))
    else
      (some ((0 : Int32), h3)))
def g_X0_lineUp_L58 (K102 : Int32 → HH → Option (Unit × HH)) (c1 : Int32) (c2 : Int32) : Nat → Int32 → Int32 → HH → Option (Unit × HH)
  | 0, _, _, _ => none
  | n + 1, x3, x4, h =>
    if 0 < x4 then
      (ldI h 194 20 (x3 - (1 : Int32)) fun v15 =>
      bnd (g_X0_comesFirst c2 v15 h) fun r17 h16 => 
      if r17 = 0 then
        (K102 x3 h16)
      else
        (ldI h16 194 20 (x3 - (1 : Int32)) fun v18 =>
        stI h16 194 20 x3 v18 fun h19 =>
        vl (x3 + (-1 : Int32)) fun v20 =>
        vl (x4 + (-1 : Int32)) fun v21 =>
        g_X0_lineUp_L58 K102 c1 c2 n v20 v21 h19))
    else
      (K102 x3 h)
def g_X0_lineUp_L7 (c1 : Int32) : Nat → Int32 → HH → Option (Unit × HH)
  | 0, _, _ => none
  | n + 1, x2, h =>
    gfR h 2 fun p2 => ckH p2 (.inl 5) (
    gfI h p2 9 fun v3 =>
    if x2 < v3 then
      (gfR h 2 fun p4 => ckH p4 (.inl 5) (
      ldI h (p4 + 9) 20 x2 fun v5 =>
      jn (fun  (h8 : HH) =>
        vl (x2 + (1 : Int32)) fun v9 =>
        g_X0_lineUp_L7 c1 n v9 h8) fun j6 =>
      if v5 = c1 then
        (gfR h 2 fun p10 => ckH p10 (.inl 5) (
        ldI h (p10 + 8) 20 x2 fun v11 =>
        gfI h 193 7 fun v12 =>
        if v11 = v12 then
          (j6 h)
        else
          (gfI h 193 3 fun v13 =>
          gfI h 193 3 fun v14 =>
          g_X0_lineUp_L58 (fun (z23 : Int32) (h22 : HH) =>
            stI h22 194 20 z23 x2 fun h24 =>
            gfI h24 193 3 fun v25 =>
            pfI h24 193 3 (v25 + (1 : Int32)) fun h26 =>
            j6 h26) c1 x2 1024 v13 v14 h)))
      else
        (j6 h)))
    else
      (some ((), h)))
def g_X0_lineUp (a0 : Int32) (h : HH) : Option (Unit × HH) :=
  pfI h 193 3 (0 : Int32) fun h1 =>
  g_X0_lineUp_L7 a0 1024 (0 : Int32) h1
def g_X7_addTired (this : Nat) (a0 : Int32) (a1 : Int32) (h : HH) : Option (Unit × HH) :=
  ckH this (.inl 7) (
  ldI h (this + 2) 6 a0 fun v1 =>
  stI h (this + 2) 6 a0 (mnI (99999 : Int32) (v1 + a1)) fun h2 =>
  some ((), h2))
def g_X0_swing (a0 : Int32) (a1 : Int32) (h : HH) : Option (Unit × HH) :=
  gfR h 2 fun p1 => ckH p1 (.inl 5) (
  ldI h (p1 + 4) 6 a1 fun v2 =>
  gfR h 2 fun p3 => ckH p3 (.inl 5) (
  ldI h (p3 + 5) 6 a1 fun v4 =>
  gfR h 3 fun p5 => ckH p5 (.inl 7) (
  ldI h (p5 + 1) 6 a0 fun v6 =>
  gfI h 193 8 fun v7 =>
  jn (fun  (h10 : HH) =>
    gfR h10 3 fun p11 => ckH p11 (.inl 7) (
    ldI h10 (p11 + 3) 6 a0 fun v12 =>
    stI h10 (p11 + 3) 6 a0 (v12 + (1 : Int32)) fun h13 =>
    some ((), h13))) fun j8 =>
  if v7 = 0 then
    (jn (fun  (h16 : HH) =>
      gfR h16 3 fun p17 => ckH p17 (.inl 7) (
      jn (fun (y21 : Int32) (h20 : HH) =>
        stI h20 (p17 + 1) 6 a0 y21 fun h22 =>
        gfR h22 3 fun p23 => ckH p23 (.inl 7) (
        gfR h22 2 fun p24 => ckH p24 (.inl 5) (
        ldI h22 (p24 + 6) 6 a1 fun v25 =>
        bnd (g_X7_addTired p23 a0 v25 h22) fun _ h26 => 
        some ((), h26)))) fun j18 =>
      if v6 = v2 then
        (j18 v4 h16)
      else
        (j18 v2 h16))) fun j14 =>
    if v6 = v2 then
      (j14 h)
    else
      (if v6 = v4 then
        (j14 h)
      else
        (j8 h)))
  else
    (j8 h))))
def g_X7_drawn (this : Nat) (h : HH) : Option (Int32 × HH) :=
  ckH this (.inl 7) (
  gfI h this 6 fun v1 =>
  pfI h this 6 (((v1 * (1103515245 : Int32)) + (12345 : Int32)) &&& (2147483647 : Int32)) fun h2 =>
  gfI h2 this 6 fun v3 =>
  dvI v3 (65536 : Int32) fun v4 =>
  some (v4, h2))
def g_X0_slips (h : HH) : Option (Int32 × HH) :=
  gfI h 193 6 fun v1 =>
  if v1 = (2 : Int32) then
    (some ((0 : Int32), h))
  else
    (gfR h 2 fun p2 => ckH p2 (.inl 5) (
    gfI h p2 15 fun v3 =>
    if v3 = 0 then
      (some ((0 : Int32), h))
    else
      (gfR h 2 fun p4 => ckH p4 (.inl 5) (
      gfI h p4 15 fun v5 =>
      if v5 = (100 : Int32) then
        (some ((1 : Int32), h))
      else
        (gfI h 193 6 fun v6 =>
        if v6 = (1 : Int32) then
          (gfR h 2 fun p7 => ckH p7 (.inl 5) (
          gfI h p7 15 fun v8 =>
          if v8 < (50 : Int32) then
            (some ((0 : Int32), h))
          else
            (some ((1 : Int32), h))))
        else
          (gfR h 3 fun p9 => ckH p9 (.inl 7) (
          bnd (g_X7_drawn p9 h) fun r11 h10 => 
          rmI r11 (100 : Int32) fun v12 =>
          gfR h10 2 fun p13 => ckH p13 (.inl 5) (
          gfI h10 p13 15 fun v14 =>
          if v12 < v14 then
            (some ((1 : Int32), h10))
          else
            (some ((0 : Int32), h10))))))))))
def g_X0_joined (a0 : Int32) (a1 : Int64) (a2 : Int64) (h : HH) : Option (Int64 × HH) :=
  if a0 = (7 : Int32) then
    (if (lg_cmp a1 a2) < 0 then
      (some ((1 : Int64), h))
    else
      (some ((0 : Int64), h)))
  else
    (if a0 = (8 : Int32) then
      (if 0 < (lg_cmp a1 a2) then
        (some ((0 : Int64), h))
      else
        (some ((1 : Int64), h)))
    else
      (if a0 = (9 : Int32) then
        (if (lg_cmp a1 a2) = 0 then
          (some ((1 : Int64), h))
        else
          (some ((0 : Int64), h)))
      else
        (if a0 = (10 : Int32) then
          (if (lg_cmp a1 a2) = 0 then
            (some ((0 : Int64), h))
          else
            (some ((1 : Int64), h)))
        else
          (if a0 = (11 : Int32) then
            (if (lg_cmp a1 a2) < 0 then
              (some ((0 : Int64), h))
            else
              (some ((1 : Int64), h)))
          else
            (if a0 = (12 : Int32) then
              (if 0 < (lg_cmp a1 a2) then
                (some ((1 : Int64), h))
              else
                (some ((0 : Int64), h)))
            else
              (if a0 = (13 : Int32) then
                (if 0 < (lg_cmp (a1 + a2) (1000000000000 : Int64)) then
                  (some ((-9223372036854775808 : Int64), h))
                else
                  (if (lg_cmp (a1 + a2) (-1000000000000 : Int64)) < 0 then
                    (some ((-9223372036854775808 : Int64), h))
                  else
                    (some ((a1 + a2), h))))
              else
                (if a0 = (14 : Int32) then
                  (if 0 < (lg_cmp (a1 - a2) (1000000000000 : Int64)) then
                    (some ((-9223372036854775808 : Int64), h))
                  else
                    (if (lg_cmp (a1 - a2) (-1000000000000 : Int64)) < 0 then
                      (some ((-9223372036854775808 : Int64), h))
                    else
                      (some ((a1 - a2), h))))
                else
                  (if a0 = (15 : Int32) then
                    (jn (fun (y13 : Int64) (h12 : HH) =>
                      if 0 < (lg_cmp a2 y13) then
                        (some ((-9223372036854775808 : Int64), h12))
                      else
                        (if (lg_cmp a2 (-y13)) < 0 then
                          (some ((-9223372036854775808 : Int64), h12))
                        else
                          (some ((a1 * a2), h12)))) fun j10 =>
                    if (lg_cmp a1 (0 : Int64)) = 0 then
                      (j10 (1000000000000 : Int64) h)
                    else
                      (jn (fun (y17 : Int64) (h16 : HH) =>
                        dvL (1000000000000 : Int64) y17 fun v18 =>
                        j10 v18 h16) fun j14 =>
                      if (lg_cmp a1 (0 : Int64)) < 0 then
                        (j14 (-a1) h)
                      else
                        (j14 a1 h)))
                  else
                    (if a0 = (16 : Int32) then
                      (if (lg_cmp a2 (0 : Int64)) = 0 then
                        (some ((-9223372036854775808 : Int64), h))
                      else
                        (dvL a1 a2 fun v20 =>
                        some (v20, h)))
                    else
                      (if a0 = (31 : Int32) then
                        (if (lg_cmp a1 (0 : Int64)) = 0 then
                          (some ((0 : Int64), h))
                        else
                          (if (lg_cmp a2 (0 : Int64)) = 0 then
                            (some ((0 : Int64), h))
                          else
                            (some ((1 : Int64), h))))
                      else
                        (if (lg_cmp a1 (0 : Int64)) = 0 then
                          (if (lg_cmp a2 (0 : Int64)) = 0 then
                            (some ((0 : Int64), h))
                          else
                            (some ((1 : Int64), h)))
                        else
                          (some ((1 : Int64), h)))))))))))))
def g_X0_nameOf_L83 (c3 : Int32) : Nat → Int32 → Int32 → HH → Option (Int32 × HH)
  | 0, _, _, _ => none
  | n + 1, x4, x5, h =>
    gfR h 2 fun p14 => ckH p14 (.inl 5) (
    gfI h p14 2 fun v15 =>
    if x5 < v15 then
      (gfR h 3 fun p16 => ckH p16 (.inl 7) (
      ldI h (p16 + 1) 6 x5 fun v17 =>
      jn (fun (y21 : Int32) (h20 : HH) =>
        vl ((x4 + y21)) fun v22 =>
        vl (x5 + (1 : Int32)) fun v23 =>
        g_X0_nameOf_L83 c3 n v22 v23 h20) fun j18 =>
      if v17 = c3 then
        (j18 (1 : Int32) h)
      else
        (j18 (0 : Int32) h)))
    else
      (some (x4, h)))
def g_X0_nameOf (a0 : Int32) (a1 : Int32) (a2 : Int32) (h : HH) : Option (Int32 × HH) :=
  if a0 = (35 : Int32) then
    (gfR h 2 fun p2 => ckH p2 (.inl 5) (
    ldI h (p2 + 1) 6 a2 fun v3 =>
    some (v3, h)))
  else
    (if a0 = (36 : Int32) then
      (some (a2, h))
    else
      (if a0 = (37 : Int32) then
        (gfR h 4 fun p6 => ckH p6 (.inr (0, 6, 0)) (
        ldI h p6 6 a1 fun v7 =>
        some (v7, h)))
      else
        (if a0 = (38 : Int32) then
          (gfR h 3 fun p9 => ckH p9 (.inl 7) (
          ldI h (p9 + 2) 6 a1 fun v10 =>
          some (v10, h)))
        else
          (if a0 = (40 : Int32) then
            (gfR h 3 fun p12 => ckH p12 (.inl 7) (
            gfI h p12 5 fun v13 =>
            some (v13, h)))
          else
            (g_X0_nameOf_L83 a2 1024 (0 : Int32) (0 : Int32) h)))))
def g_X10_cell (a0 : Int32) (a1 : Int32) (h : HH) : Option (Int32 × HH) :=
  some (((a0 * (6 : Int32)) + a1), h)
def g_X0_valueOf_L39 (K270 : Int32 → HH → Option (Int64 × HH)) (c1 : Int32) (c2 : Int32) (c3 : Int32) (b_p1 : Nat) (c6 : Int32) : Nat → Int32 → Int32 → HH → Option (Int64 × HH)
  | 0, _, _, _ => none
  | n + 1, x7, x8, h =>
    ldI h (b_p1 + 15) 3 c1 fun v8 =>
    if x8 < v8 then
      (ldI h (b_p1 + 12) 64 x8 fun v9 =>
      jn (fun (y13 : Int32) (h12 : HH) =>
        vl ((x7 - y13)) fun v14 =>
        if v14 < 0 then
          (some ((-9223372036854775808 : Int64), h12))
        else
          (if (v14 + (1 : Int32)) < (64 : Int32) then
            (jn (fun  (h17 : HH) =>
              ldL h17 195 64 v14 fun v18 =>
              if (lg_cmp v18 (-9223372036854775808 : Int64)) = 0 then
                (some ((-9223372036854775808 : Int64), h17))
              else
                (vl (v14 + (1 : Int32)) fun v19 =>
                vl (x8 + (1 : Int32)) fun v20 =>
                g_X0_valueOf_L39 K270 c1 c2 c3 b_p1 c6 n v19 v20 h17)) fun j15 =>
            if v9 = (2 : Int32) then
              (ldI h12 (b_p1 + 13) 64 x8 fun v21 =>
              stL h12 195 64 v14 (Int32.toInt64 v21) fun h22 =>
              j15 h22)
            else
              (if y13 = 0 then
                (jn (fun (y26 : Int64) (h25 : HH) =>
                  stL h25 195 64 v14 y26 fun h27 =>
                  j15 h27) fun j23 =>
                if v9 = (34 : Int32) then
                  (j23 (Int32.toInt64 c6) h12)
                else
                  (bnd (g_X0_nameOf v9 c2 c3 h12) fun r29 h28 => 
                  j23 (Int32.toInt64 r29) h28))
              else
                (if y13 = (1 : Int32) then
                  (ldL h12 195 64 v14 fun v30 =>
                  jn (fun (y34 : Int64) (h33 : HH) =>
                    stL h33 195 64 v14 y34 fun h35 =>
                    j15 h35) fun j31 =>
                  if (lg_cmp v30 (0 : Int64)) = 0 then
                    (j31 (1 : Int64) h12)
                  else
                    (j31 (0 : Int64) h12))
                else
                  (ldL h12 195 64 v14 fun v36 =>
                  ldL h12 195 64 (v14 + (1 : Int32)) fun v37 =>
                  bnd (g_X0_joined v9 v36 v37 h12) fun r39 h38 => 
                  stL h38 195 64 v14 r39 fun h40 =>
                  j15 h40))))
          else
            (some ((-9223372036854775808 : Int64), h12)))) fun j10 =>
      jn (fun  (h43 : HH) =>
        j10 (0 : Int32) h43) fun j41 =>
      if v9 = (2 : Int32) then
        (j41 h)
      else
        (if v9 < (34 : Int32) then
          (if v9 = (33 : Int32) then
            (j10 (1 : Int32) h)
          else
            (j10 (2 : Int32) h))
        else
          (j41 h)))
    else
      (K270 x7 h)
def g_X0_valueOf (a0 : Int32) (a1 : Int32) (a2 : Int32) (a3 : Int32) (h : HH) : Option (Int64 × HH) :=
  gfR h 2 fun p1 => ckH p1 (.inl 5) (
  gfR h 3 fun p2 => ckH p2 (.inl 7) (
  bnd (g_X10_cell a1 a2 h) fun r4 h3 => 
  ldI h3 (p2 + 5) 36 r4 fun v5 =>
  vl ((v5 - a3)) fun v6 =>
  ldI h3 (p1 + 14) 3 a0 fun v7 =>
  g_X0_valueOf_L39 (fun (z45 : Int32) (h44 : HH) =>
    if z45 = (1 : Int32) then
      (ldL h44 195 64 (0 : Int32) fun v46 =>
      some (v46, h44))
    else
      (some ((-9223372036854775808 : Int64), h44))) a0 a1 a2 p1 v6 1024 (0 : Int32) v7 h3))
def g_X0_steepOf (a0 : Int32) (a1 : Int32) (a2 : Int32) (h : HH) : Option (Int32 × HH) :=
  bnd (g_X0_valueOf (0 : Int32) a0 a1 a2 h) fun r2 h1 => 
  if (lg_cmp r2 (-9223372036854775808 : Int64)) = 0 then
    (gfR h1 2 fun p3 => ckH p3 (.inl 5) (
    ldI h1 (p3 + 1) 6 a1 fun v4 =>
    gfR h1 3 fun p5 => ckH p5 (.inl 7) (
    bnd (g_X10_cell a0 a1 h1) fun r7 h6 => 
    ldI h6 (p5 + 5) 36 r7 fun v8 =>
    some (((v4 + v8) - a2), h6))))
  else
    (gfR h1 2 fun p9 => ckH p9 (.inl 5) (
    ldI h1 (p9 + 1) 6 a1 fun v10 =>
    some ((v10 + (Int64.toInt32 (mxL (-99 : Int64) (mnL (999 : Int64) r2)))), h1)))
def g_X7_addTally (this : Nat) (a0 : Int32) (a1 : Int32) (h : HH) : Option (Unit × HH) :=
  ckH this (.inl 7) (
  ldI h (this + 5) 36 a0 fun v1 =>
  stI h (this + 5) 36 a0 (mxI (-99 : Int32) (mnI (999 : Int32) (v1 + a1))) fun h2 =>
  some ((), h2))
def g_X0_rise (a0 : Int32) (a1 : Int32) (h : HH) : Option (Int32 × HH) :=
  bnd (g_X0_steepOf a0 a1 (0 : Int32) h) fun r2 h1 => 
  gfR h1 4 fun p3 => ckH p3 (.inr (0, 6, 0)) (
  ldI h1 p3 6 a0 fun v4 =>
  jn (fun  (h7 : HH) =>
    gfR h7 3 fun p8 => ckH p8 (.inl 7) (
    ldI h7 (p8 + 3) 6 a0 fun v9 =>
    stI h7 (p8 + 3) 6 a0 (v9 + (1 : Int32)) fun h10 =>
    some ((0 : Int32), h10))) fun j5 =>
  if v4 < r2 then
    (j5 h1)
  else
    (bnd (g_X0_valueOf (2 : Int32) a0 a1 (0 : Int32) h1) fun r12 h11 => 
    if (lg_cmp r12 (0 : Int64)) = 0 then
      (j5 h11)
    else
      (bnd (g_X0_slips h11) fun r14 h13 => 
      if r14 = 0 then
        (bnd (g_X0_valueOf (1 : Int32) a0 a1 (0 : Int32) h13) fun r16 h15 => 
        gfR h15 3 fun p17 => ckH p17 (.inl 7) (
        jn (fun (y21 : Int32) (h20 : HH) =>
          bnd (g_X7_addTired p17 a0 y21 h20) fun _ h22 => 
          gfR h22 3 fun p24 => ckH p24 (.inl 7) (
          bnd (g_X10_cell a0 a1 h22) fun r26 h25 => 
          bnd (g_X7_addTally p24 r26 (1 : Int32) h25) fun _ h27 => 
          gfR h27 3 fun p29 => ckH p29 (.inl 7) (
          stI h27 (p29 + 1) 6 a0 (a1 + (1 : Int32)) fun h30 =>
          some ((1 : Int32), h30)))) fun j18 =>
        if (lg_cmp r16 (-9223372036854775808 : Int64)) = 0 then
          (j18 (mxI (0 : Int32) r2) h15)
        else
          (j18 (Int64.toInt32 (mxL (0 : Int64) (mnL (99 : Int64) r16))) h15)))
      else
        (gfR h13 3 fun p31 => ckH p31 (.inl 7) (
        ldI h13 (p31 + 4) 6 a0 fun v32 =>
        stI h13 (p31 + 4) 6 a0 (v32 + (1 : Int32)) fun h33 =>
        gfR h33 3 fun p34 => ckH p34 (.inl 7) (
        stI h33 (p34 + 1) 6 a0 (0 : Int32) fun h35 =>
        some ((0 : Int32), h35)))))))
def g_X0_walkTo_L8 (K65 : HH → Option (Int32 × HH)) (c1 : Int32) (c2 : Int32) : Nat → Int32 → HH → Option (Int32 × HH)
  | 0, _, _ => none
  | n + 1, x3, h =>
    if 0 < x3 then
      (gfR h 3 fun p3 => ckH p3 (.inl 7) (
      ldI h (p3 + 1) 6 c1 fun v4 =>
      if c2 < v4 then
        (gfR h 3 fun p5 => ckH p5 (.inl 7) (
        ldI h (p5 + 1) 6 c1 fun v6 =>
        stI h (p5 + 1) 6 c1 (v6 - (1 : Int32)) fun h7 =>
        gfR h7 3 fun p8 => ckH p8 (.inl 7) (
        gfR h7 3 fun p9 => ckH p9 (.inl 7) (
        ldI h7 (p9 + 1) 6 c1 fun v10 =>
        bnd (g_X10_cell c1 v10 h7) fun r12 h11 => 
        bnd (g_X7_addTally p8 r12 (-1 : Int32) h11) fun _ h13 => 
        vl (x3 + (-1 : Int32)) fun v15 =>
        g_X0_walkTo_L8 K65 c1 c2 n v15 h13))))
      else
        (K65 h)))
    else
      (K65 h)
def g_X0_walkTo_L73 (c1 : Int32) (c2 : Int32) : Nat → Int32 → HH → Option (Int32 × HH)
  | 0, _, _ => none
  | n + 1, x3, h =>
    if 0 < x3 then
      (gfR h 3 fun p19 => ckH p19 (.inl 7) (
      ldI h (p19 + 1) 6 c1 fun v20 =>
      if v20 < c2 then
        (gfR h 3 fun p21 => ckH p21 (.inl 7) (
        ldI h (p21 + 1) 6 c1 fun v22 =>
        bnd (g_X0_rise c1 v22 h) fun r24 h23 => 
        if r24 = 0 then
          (some ((0 : Int32), h23))
        else
          (vl (x3 + (-1 : Int32)) fun v25 =>
          g_X0_walkTo_L73 c1 c2 n v25 h23)))
      else
        (some ((1 : Int32), h))))
    else
      (some ((1 : Int32), h))
def g_X0_walkTo (a0 : Int32) (a1 : Int32) (h : HH) : Option (Int32 × HH) :=
  gfR h 2 fun p1 => ckH p1 (.inl 5) (
  gfI h p1 0 fun v2 =>
  g_X0_walkTo_L8 (fun  (h16 : HH) =>
    gfR h16 2 fun p17 => ckH p17 (.inl 5) (
    gfI h16 p17 0 fun v18 =>
    g_X0_walkTo_L73 a0 a1 1024 v18 h16)) a0 a1 1024 v2 h)
def g_X0_passOne_L13 (K116 : HH → Option (Unit × HH)) : Nat → Int32 → HH → Option (Unit × HH)
  | 0, _, _ => none
  | n + 1, x1, h =>
    gfI h 193 3 fun v5 =>
    if x1 < v5 then
      (gfR h 2 fun p6 => ckH p6 (.inl 5) (
      ldI h 194 20 x1 fun v7 =>
      ldI h (p6 + 8) 20 v7 fun v8 =>
      gfR h 2 fun p9 => ckH p9 (.inl 5) (
      ldI h 194 20 x1 fun v10 =>
      ldI h (p9 + 10) 20 v10 fun v11 =>
      gfR h 2 fun p12 => ckH p12 (.inl 5) (
      ldI h 194 20 x1 fun v13 =>
      ldI h (p12 + 7) 20 v13 fun v14 =>
      jn (fun  (h17 : HH) =>
        vl (x1 + (1 : Int32)) fun v18 =>
        g_X0_passOne_L13 K116 n v18 h17) fun j15 =>
      if v14 = (22 : Int32) then
        (bnd (g_X0_walkTo v8 v11 h) fun r20 h19 => 
        j15 h19)
      else
        (if v14 = (23 : Int32) then
          (bnd (g_X0_swing v8 v11 h) fun _ h21 => 
          j15 h21)
        else
          (gfR h 3 fun p23 => ckH p23 (.inl 7) (
          stI h (p23 + 1) 6 v8 (0 : Int32) fun h24 =>
          j15 h24)))))))
    else
      (K116 h)
def g_X0_passOne (h : HH) : Option (Unit × HH) :=
  gfR h 3 fun p1 => ckH p1 (.inl 7) (
  gfI h p1 5 fun v2 =>
  bnd (g_X0_lineUp v2 h) fun _ h3 => 
  g_X0_passOne_L13 (fun  (h25 : HH) =>
    gfR h25 3 fun p26 => ckH p26 (.inl 7) (
    gfI h25 p26 5 fun v27 =>
    pfI h25 p26 5 (v27 + (1 : Int32)) fun h28 =>
    some ((), h28))) 1024 (0 : Int32) h3)
def g_X5_firstHour_L4 (b_this : Nat) (c1 : Int32) : Nat → Int32 → Int32 → HH → Option (Int32 × HH)
  | 0, _, _, _ => none
  | n + 1, x2, x3, h =>
    gfI h b_this 9 fun v1 =>
    if x3 < v1 then
      (ldI h (b_this + 9) 20 x3 fun v2 =>
      jn (fun (u6 : Int32) (h5 : HH) =>
        vl (x3 + (1 : Int32)) fun v7 =>
        g_X5_firstHour_L4 b_this c1 n u6 v7 h5) fun j3 =>
      if v2 < c1 then
        (j3 x2 h)
      else
        (jn (fun  (h10 : HH) =>
          ldI h10 (b_this + 9) 20 x3 fun v11 =>
          j3 v11 h10) fun j8 =>
        if x2 = (-1 : Int32) then
          (j8 h)
        else
          (ldI h (b_this + 9) 20 x3 fun v12 =>
          if v12 < x2 then
            (j8 h)
          else
            (j3 x2 h))))
    else
      (some (x2, h))
def g_X5_firstHour (this : Nat) (a0 : Int32) (h : HH) : Option (Int32 × HH) :=
  ckH this (.inl 5) (
  g_X5_firstHour_L4 this a0 1024 (-1 : Int32) (0 : Int32) h)
def g_X0_pass_L12 (K66 : HH → Option (Unit × HH)) (K44 : HH → Option (Unit × HH)) (c2 : Int32) : Nat → Int32 → HH → Option (Unit × HH)
  | 0, _, _ => none
  | n + 1, x3, h =>
    if 0 < x3 then
      (gfR h 2 fun p4 => ckH p4 (.inl 5) (
      gfR h 3 fun p5 => ckH p5 (.inl 7) (
      gfI h p5 5 fun v6 =>
      bnd (g_X5_firstHour p4 v6 h) fun r8 h7 => 
      if r8 = (-1 : Int32) then
        (K66 h7)
      else
        (if r8 < c2 then
          (gfR h7 3 fun p9 => ckH p9 (.inl 7) (
          pfI h7 p9 5 r8 fun h10 =>
          bnd (g_X0_passOne h10) fun _ h11 => 
          vl (x3 + (-1 : Int32)) fun v13 =>
          g_X0_pass_L12 K66 K44 c2 n v13 h11))
        else
          (K44 h7)))))
    else
      (K66 h)
def g_X0_pass (a0 : Int32) (h : HH) : Option (Unit × HH) :=
  gfR h 3 fun p1 => ckH p1 (.inl 7) (
  gfI h p1 5 fun v2 =>
  vl ((v2 + a0)) fun v3 =>
  g_X0_pass_L12 (fun  (h14 : HH) =>
    gfR h14 3 fun p15 => ckH p15 (.inl 7) (
    pfI h14 p15 5 v3 fun h16 =>
    some ((), h16))) (fun  (h17 : HH) =>
    gfR h17 3 fun p18 => ckH p18 (.inl 7) (
    pfI h17 p18 5 v3 fun h19 =>
    some ((), h19))) v3 1024 a0 h)
def g_X0_costUp (a0 : Int32) (a1 : Int32) (h : HH) : Option (Int32 × HH) :=
  bnd (g_X0_steepOf a0 a1 (0 : Int32) h) fun r2 h1 => 
  gfR h1 4 fun p3 => ckH p3 (.inr (0, 6, 0)) (
  ldI h1 p3 6 a0 fun v4 =>
  if v4 < r2 then
    (some ((-1 : Int32), h1))
  else
    (bnd (g_X0_valueOf (2 : Int32) a0 a1 (0 : Int32) h1) fun r6 h5 => 
    if (lg_cmp r6 (0 : Int64)) = 0 then
      (some ((-1 : Int32), h5))
    else
      (some ((mxI (0 : Int32) r2), h5))))
def g_X3_hold_L2 (c1 : Int32) (b_a1 : Nat) : Nat → Int32 → HH → Option (Int32 × HH)
  | 0, _, _ => none
  | n + 1, x3, h =>
    gfI h 186 6 fun v1 =>
    if x3 < v1 then
      (ldI h 192 24 x3 fun v2 =>
      jn (fun (y6 : Int32) (h5 : HH) =>
        jn (fun  (h9 : HH) =>
          vl (x3 + (1 : Int32)) fun v10 =>
          g_X3_hold_L2 c1 b_a1 n v10 h9) fun j7 =>
        if y6 = 0 then
          (j7 h5)
        else
          (ldI h5 188 24 x3 fun v11 =>
          ldI h5 (b_a1 + 1) 6 v11 fun v12 =>
          ldI h5 189 24 x3 fun v13 =>
          jn (fun (y17 : Int32) (h16 : HH) =>
            ldI h16 190 24 x3 fun v18 =>
            if y17 = v18 then
              (j7 h16)
            else
              (some ((0 : Int32), h16))) fun j14 =>
          if v12 = v13 then
            (j14 (1 : Int32) h5)
          else
            (j14 (0 : Int32) h5))) fun j3 =>
      jn (fun  (h21 : HH) =>
        j3 (0 : Int32) h21) fun j19 =>
      if v2 = 0 then
        (j19 h)
      else
        (ldI h 187 24 x3 fun v22 =>
        if v22 = c1 then
          (j3 (1 : Int32) h)
        else
          (j19 h)))
    else
      (some ((1 : Int32), h))
def g_X3_hold (a0 : Int32) (a1 : Nat) (h : HH) : Option (Int32 × HH) :=
  ckH a1 (.inl 7) (
  g_X3_hold_L2 a0 a1 1024 (0 : Int32) h)
def g_X7_take (this : Nat) (a0 : Nat) (h : HH) : Option (Unit × HH) :=
  ckH this (.inl 7) (
  ckH a0 (.inl 7) (
  cpI h (a0 + 1) (this + 1) 6 fun h1 =>
  cpI h1 (a0 + 2) (this + 2) 6 fun h2 =>
  cpI h2 (a0 + 3) (this + 3) 6 fun h3 =>
  cpI h3 (a0 + 4) (this + 4) 6 fun h4 =>
  cpI h4 (a0 + 5) (this + 5) 36 fun h5 =>
  gfI h5 a0 5 fun v6 =>
  pfI h5 this 5 v6 fun h7 =>
  gfI h7 a0 6 fun v8 =>
  pfI h7 this 6 v8 fun h9 =>
  some ((), h9)))
def g_X1_possible_L54 (K111 : Int32 → HH → Option (Int32 × HH)) (c3 : Int32) (c4 : Int32) (c5 : Int32) (c6 : Int32) (b_p1 : Nat) : Nat → Int32 → Int32 → HH → Option (Int32 × HH)
  | 0, _, _, _ => none
  | n + 1, x8, x9, h =>
    if (40 : Int32) < x9 then
      (K111 x8 h)
    else
      (bnd (g_X0_passOne h) fun _ h8 => 
      ldR 226 19 1 c6 fun p10 => ckH p10 (.inr (0, 41, 0)) (
      ldI h8 (b_p1 + 1) 6 c3 fun v11 =>
      stI h8 p10 41 x9 v11 fun h12 =>
      jn (fun (y16 : Int32) (h15 : HH) =>
        vl (x9 + (1 : Int32)) fun v17 =>
        g_X1_possible_L54 K111 c3 c4 c5 c6 b_p1 n y16 v17 h15) fun j13 =>
      jn (fun  (h20 : HH) =>
        j13 (0 : Int32) h20) fun j18 =>
      if x8 = 0 then
        (j18 h12)
      else
        (bnd (g_X3_hold x9 b_p1 h12) fun r22 h21 => 
        if r22 = 0 then
          (j18 h21)
        else
          (j13 (1 : Int32) h21))))
def g_X1_possible_L6 (c3 : Int32) (c4 : Int32) : Nat → Int32 → Int32 → HH → Option (Int32 × HH)
  | 0, _, _, _ => none
  | n + 1, x5, x6, h =>
    if x6 < (19 : Int32) then
      (gfR h 3 fun p1 => ckH p1 (.inl 7) (
      gfR h 2 fun p2 => ckH p2 (.inl 5) (
      bnd (g_X7_take p1 (p2 + 16) h) fun _ h3 => 
      bnd (g_X10_cell c3 c4 h3) fun r6 h5 => 
      stI h5 (p1 + 5) 36 r6 (x6 - (9 : Int32)) fun h7 =>
      g_X1_possible_L54 (fun (z24 : Int32) (h23 : HH) =>
        jn (fun (u28 : Int32) (h27 : HH) =>
          vl (x6 + (1 : Int32)) fun v29 =>
          g_X1_possible_L6 c3 c4 n u28 v29 h27) fun j25 =>
        if z24 = 0 then
          (j25 x5 h23)
        else
          (vl ((x5 ||| ((1 : Int32) <<< (x6 &&& 31)))) fun v30 =>
          j25 v30 h23)) c3 c4 x5 x6 p1 1024 (1 : Int32) (1 : Int32) h7)))
    else
      (some (x5, h))
def g_X1_possible (a2 : Int32) (a3 : Int32) (h : HH) : Option (Int32 × HH) :=
  g_X1_possible_L6 a2 a3 1024 (0 : Int32) (0 : Int32) h
def g_J7_fill_53178_L5 (b_a0 : Nat) (c1 : Int32) (c3 : Int32) : Nat → Int32 → HH → Option (Unit × HH)
  | 0, _, _ => none
  | n + 1, x2, h =>
    if x2 < c3 then
      (stI h b_a0 (lnA b_a0) x2 c1 fun h2 =>
      vl (x2 + (1 : Int32)) fun v3 =>
      g_J7_fill_53178_L5 b_a0 c1 c3 n v3 h2)
    else
      (some ((), h))
def g_J7_fill_53178 (a0 : Nat) (a1 : Int32) (h : HH) : Option (Unit × HH) :=
  ckA a0 (
  vl ((Int32.ofNat (lnA a0))) fun v1 =>
  g_J7_fill_53178_L5 a0 a1 v1 1024 (0 : Int32) h)
def g_X1_worst_L13 (c1 : Int32) (c2 : Int32) : Nat → Int32 → Int32 → HH → Option (Int32 × HH)
  | 0, _, _, _ => none
  | n + 1, x3, x4, h =>
    if x4 < (19 : Int32) then
      (jn (fun (u6 : Int32) (h5 : HH) =>
        vl (x4 + (1 : Int32)) fun v7 =>
        g_X1_worst_L13 c1 c2 n u6 v7 h5) fun j3 =>
      if ((c1 >>> (x4 &&& 31)) &&& (1 : Int32)) = 0 then
        (j3 x3 h)
      else
        (ldR 226 19 1 x4 fun p8 => ckH p8 (.inr (0, 41, 0)) (
        ldI h p8 41 c2 fun v9 =>
        ldI h 246 7 v9 fun v10 =>
        stI h 246 7 v9 (v10 + (1 : Int32)) fun h11 =>
        ldI h11 246 7 v9 fun v12 =>
        vl ((mxI x3 v12)) fun v13 =>
        j3 v13 h11)))
    else
      (some (x3, h))
def g_X1_worst (a0 : Int32) (a1 : Int32) (h : HH) : Option (Int32 × HH) :=
  bnd (g_J7_fill_53178 246 (0 : Int32) h) fun _ h1 => 
  g_X1_worst_L13 a0 a1 1024 (0 : Int32) (0 : Int32) h1
def g_X2_clear (this : Nat) (h : HH) : Option (Unit × HH) :=
  ckH this (.inl 2) (
  pfI h this 2 (0 : Int32) fun h1 =>
  bnd (g_J7_fill_53178 (this + 3) (0 : Int32) h1) fun _ h2 => 
  bnd (g_J7_fill_53178 (this + 4) (0 : Int32) h2) fun _ h4 => 
  some ((), h4))
def g_X2_hasLaw (this : Nat) (a0 : Int32) (h : HH) : Option (Int32 × HH) :=
  ckH this (.inl 2) (
  ldI h (this + 4) 3 a0 fun v1 =>
  ldI h (this + 3) 3 a0 fun v2 =>
  if v2 < v1 then
    (some ((1 : Int32), h))
  else
    (some ((0 : Int32), h)))
def g_X2_put (this : Nat) (a0 : Int32) (a1 : Int32) (h : HH) : Option (Unit × HH) :=
  ckH this (.inl 2) (
  gfI h this 2 fun v1 =>
  if v1 < (64 : Int32) then
    (gfI h this 2 fun v2 =>
    stI h (this + 1) 64 v2 a0 fun h3 =>
    gfI h3 this 2 fun v4 =>
    stI h3 (this + 2) 64 v4 a1 fun h5 =>
    gfI h5 this 2 fun v6 =>
    pfI h5 this 2 (v6 + (1 : Int32)) fun h7 =>
    some ((), h7))
  else
    (some ((), h)))
def g_X3_clear (h : HH) : Option (Unit × HH) :=
  pfI h 186 6 (0 : Int32) fun h1 =>
  pfI h1 186 7 (-1 : Int32) fun h2 =>
  some ((), h2)
def g_X3_add (a0 : Int32) (a1 : Int32) (a2 : Int32) (a3 : Int32) (h : HH) : Option (Int32 × HH) :=
  gfI h 186 6 fun v1 =>
  if v1 < (24 : Int32) then
    (gfI h 186 6 fun v2 =>
    stI h 187 24 v2 a0 fun h3 =>
    gfI h3 186 6 fun v4 =>
    stI h3 188 24 v4 a1 fun h5 =>
    gfI h5 186 6 fun v6 =>
    stI h5 189 24 v6 a2 fun h7 =>
    gfI h7 186 6 fun v8 =>
    stI h7 190 24 v8 (vp_nar .boolean a3) fun h9 =>
    gfI h9 186 6 fun v10 =>
    stI h9 191 24 v10 (-1 : Int32) fun h11 =>
    gfI h11 186 6 fun v12 =>
    pfI h11 186 6 (v12 + (1 : Int32)) fun h13 =>
    gfI h13 186 6 fun v14 =>
    some ((v14 - (1 : Int32)), h13))
  else
    (some ((-1 : Int32), h))
def g_X3_addStrike (a0 : Int32) (h : HH) : Option (Int32 × HH) :=
  if a0 < 0 then
    (some ((-1 : Int32), h))
  else
    (gfI h 186 6 fun v1 =>
    if a0 < v1 then
      (gfI h 186 6 fun v2 =>
      if v2 < (24 : Int32) then
        (gfI h 186 6 fun v3 =>
        stI h 187 24 v3 (0 : Int32) fun h4 =>
        gfI h4 186 6 fun v5 =>
        stI h4 191 24 v5 a0 fun h6 =>
        gfI h6 186 6 fun v7 =>
        pfI h6 186 6 (v7 + (1 : Int32)) fun h8 =>
        gfI h8 186 6 fun v9 =>
        some ((v9 - (1 : Int32)), h8))
      else
        (some ((-1 : Int32), h)))
    else
      (some ((-1 : Int32), h)))
def g_X3_knownBy (h : HH) : Option (Int32 × HH) :=
  gfI h 186 7 fun v1 =>
  if v1 = (-1 : Int32) then
    (gfI h 186 6 fun v2 =>
    some (v2, h))
  else
    (gfI h 186 7 fun v3 =>
    some (v3, h))
def g_X3_weigh_L2 (K33 : HH → Option (Unit × HH)) : Nat → Int32 → HH → Option (Unit × HH)
  | 0, _, _ => none
  | n + 1, x1, h =>
    if x1 < (24 : Int32) then
      (bnd (g_X3_knownBy h) fun r2 h1 => 
      jn (fun (y6 : Int32) (h5 : HH) =>
        stI h5 192 24 x1 (vp_nar .boolean y6) fun h7 =>
        vl (x1 + (1 : Int32)) fun v8 =>
        g_X3_weigh_L2 K33 n v8 h7) fun j3 =>
      if x1 < r2 then
        (j3 (1 : Int32) h1)
      else
        (j3 (0 : Int32) h1))
    else
      (K33 h)
def g_X3_weigh_L40 : Nat → Int32 → HH → Option (Unit × HH)
  | 0, _, _ => none
  | n + 1, x1, h =>
    if x1 < 0 then
      (some ((), h))
    else
      (ldI h 192 24 x1 fun v13 =>
      jn (fun  (h16 : HH) =>
        vl (x1 + (-1 : Int32)) fun v17 =>
        g_X3_weigh_L40  n v17 h16) fun j14 =>
      if v13 = 0 then
        (j14 h)
      else
        (ldI h 191 24 x1 fun v18 =>
        if v18 = (-1 : Int32) then
          (j14 h)
        else
          (ldI h 191 24 x1 fun v19 =>
          stI h 192 24 v19 (vp_nar .boolean (0 : Int32)) fun h20 =>
          j14 h20)))
def g_X3_weigh (h : HH) : Option (Unit × HH) :=
  g_X3_weigh_L2 (fun  (h9 : HH) =>
    bnd (g_X3_knownBy h9) fun r11 h10 => 
    vl ((r11 - (1 : Int32))) fun v12 =>
    g_X3_weigh_L40  1024 v12 h10) 1024 (0 : Int32) h
def g_X4_clear (h : HH) : Option (Unit × HH) :=
  pfI h 64 2 (0 : Int32) fun h1 =>
  some ((), h1)
def g_X4_push (a0 : Nat) (h : HH) : Option (Unit × HH) :=
  ckH a0 (.inl 7) (
  gfI h 64 1 fun v1 =>
  ldR 65 20 6 v1 fun p2 => ckH p2 (.inl 7) (
  bnd (g_X7_take p2 a0 h) fun _ h3 => 
  gfI h3 64 1 fun v5 =>
  rmI (v5 + (1 : Int32)) (20 : Int32) fun v6 =>
  pfI h3 64 1 v6 fun h7 =>
  gfI h7 64 2 fun v8 =>
  pfI h7 64 2 (mnI (v8 + (1 : Int32)) (20 : Int32)) fun h9 =>
  some ((), h9)))
def g_X4_pop (a0 : Nat) (h : HH) : Option (Int32 × HH) :=
  ckH a0 (.inl 7) (
  gfI h 64 2 fun v1 =>
  if v1 = 0 then
    (some ((0 : Int32), h))
  else
    (gfI h 64 1 fun v2 =>
    rmI ((v2 + (20 : Int32)) - (1 : Int32)) (20 : Int32) fun v3 =>
    pfI h 64 1 v3 fun h4 =>
    gfI h4 64 2 fun v5 =>
    pfI h4 64 2 (v5 - (1 : Int32)) fun h6 =>
    gfI h6 64 1 fun v7 =>
    ldR 65 20 6 v7 fun p8 => ckH p8 (.inl 7) (
    bnd (g_X7_take a0 p8 h6) fun _ h9 => 
    some ((1 : Int32), h9))))
def g_X7_clear (this : Nat) (h : HH) : Option (Unit × HH) :=
  ckH this (.inl 7) (
  bnd (g_J7_fill_53178 (this + 1) (0 : Int32) h) fun _ h1 => 
  bnd (g_J7_fill_53178 (this + 2) (0 : Int32) h1) fun _ h3 => 
  bnd (g_J7_fill_53178 (this + 3) (0 : Int32) h3) fun _ h5 => 
  bnd (g_J7_fill_53178 (this + 4) (0 : Int32) h5) fun _ h7 => 
  bnd (g_J7_fill_53178 (this + 5) (0 : Int32) h7) fun _ h9 => 
  pfI h9 this 5 (0 : Int32) fun h11 =>
  pfI h11 this 6 (0 : Int32) fun h12 =>
  some ((), h12))
def g_X5_clear (this : Nat) (h : HH) : Option (Unit × HH) :=
  ckH this (.inl 5) (
  pfI h this 0 (0 : Int32) fun h1 =>
  pfI h1 this 2 (0 : Int32) fun h2 =>
  pfI h2 this 5 (0 : Int32) fun h3 =>
  pfI h3 this 9 (0 : Int32) fun h4 =>
  bnd (g_X2_clear (this + 11) h4) fun _ h5 => 
  pfI h5 this 15 (0 : Int32) fun h7 =>
  bnd (g_X7_clear (this + 16) h7) fun _ h8 => 
  some ((), h8))
def g_X5_personOf_L2 (b_this : Nat) (c1 : Int32) : Nat → Int32 → HH → Option (Int32 × HH)
  | 0, _, _ => none
  | n + 1, x2, h =>
    gfI h b_this 2 fun v1 =>
    if x2 < v1 then
      (ldI h (b_this + 2) 6 x2 fun v2 =>
      if v2 = c1 then
        (some (x2, h))
      else
        (vl (x2 + (1 : Int32)) fun v3 =>
        g_X5_personOf_L2 b_this c1 n v3 h))
    else
      (some ((-1 : Int32), h))
def g_X5_personOf (this : Nat) (a0 : Int32) (h : HH) : Option (Int32 × HH) :=
  ckH this (.inl 5) (
  g_X5_personOf_L2 this a0 1024 (0 : Int32) h)
def g_X6_kind (h : HH) : Option (Int32 × HH) :=
  gfI h 24 3 fun v1 =>
  gfI h 25 3 fun v2 =>
  if v1 < v2 then
    (gfI h 24 3 fun v3 =>
    ldI h 26 701 v3 fun v4 =>
    some (v4, h))
  else
    (some ((0 : Int32), h))
def g_X6_advance (h : HH) : Option (Unit × HH) :=
  gfI h 24 3 fun v1 =>
  gfI h 25 3 fun v2 =>
  if v1 < v2 then
    (gfI h 24 3 fun v3 =>
    pfI h 24 3 (v3 + (1 : Int32)) fun h4 =>
    some ((), h4))
  else
    (some ((), h))
def g_X6_fail (a0 : Int32) (h : HH) : Option (Unit × HH) :=
  gfI h 24 4 fun v1 =>
  if v1 = 0 then
    (pfI h 24 4 a0 fun h2 =>
    gfI h2 24 3 fun v3 =>
    gfI h2 25 3 fun v4 =>
    jn (fun (y8 : Int32) (h7 : HH) =>
      pfI h7 24 5 y8 fun h9 =>
      some ((), h9)) fun j5 =>
    if v3 < v4 then
      (gfI h2 24 3 fun v10 =>
      ldI h2 27 701 v10 fun v11 =>
      j5 v11 h2)
    else
      (j5 (0 : Int32) h2))
  else
    (some ((), h))
def g_X6_value (h : HH) : Option (Int32 × HH) :=
  gfI h 24 3 fun v1 =>
  gfI h 25 3 fun v2 =>
  if v1 < v2 then
    (gfI h 24 3 fun v3 =>
    ldI h 28 701 v3 fun v4 =>
    some (v4, h))
  else
    (some ((0 : Int32), h))
def g_X6_look (a0 : Int32) (a1 : Int32) (h : HH) : Option (Int32 × HH) :=
  gfI h 24 4 fun v1 =>
  if v1 = 0 then
    (bnd (g_X6_kind h) fun r3 h2 => 
    if r3 = (2 : Int32) then
      (bnd (g_X6_value h2) fun r5 h4 => 
      jn (fun  (h8 : HH) =>
        bnd (g_X6_fail (2 : Int32) h8) fun _ h9 => 
        some (a0, h9)) fun j6 =>
      if r5 < a0 then
        (j6 h4)
      else
        (bnd (g_X6_value h4) fun r12 h11 => 
        if a1 < r12 then
          (j6 h11)
        else
          (bnd (g_X6_value h11) fun r14 h13 => 
          some (r14, h13))))
    else
      (bnd (g_X6_fail (1 : Int32) h2) fun _ h15 => 
      some (a0, h15)))
  else
    (some (a0, h))
def g_X6_number (a0 : Int32) (a1 : Int32) (h : HH) : Option (Int32 × HH) :=
  bnd (g_X6_look a0 a1 h) fun r2 h1 => 
  bnd (g_X6_advance h1) fun _ h3 => 
  some (r2, h3)
def g_X6_takeWord (a0 : Int32) (a1 : Int32) (h : HH) : Option (Unit × HH) :=
  jn (fun  (h3 : HH) =>
    bnd (g_X6_advance h3) fun _ h4 => 
    some ((), h4)) fun j1 =>
  if a0 < a1 then
    (j1 h)
  else
    (bnd (g_X6_fail (2 : Int32) h) fun _ h6 => 
    j1 h6)
def g_X6_readFlight (h : HH) : Option (Unit × HH) :=
  gfI h 24 6 fun v1 =>
  jn (fun  (h4 : HH) =>
    gfR h4 1 fun p5 => ckH p5 (.inl 5) (
    gfI h4 p5 0 fun v6 =>
    bnd (g_X6_takeWord v6 (6 : Int32) h4) fun _ h7 => 
    bnd (g_X6_number (1 : Int32) (20 : Int32) h7) fun r10 h9 => 
    gfI h9 24 4 fun v11 =>
    if v11 = 0 then
      (gfR h9 1 fun p12 => ckH p12 (.inl 5) (
      gfR h9 1 fun p13 => ckH p13 (.inl 5) (
      gfI h9 p13 0 fun v14 =>
      stI h9 (p12 + 1) 6 v14 r10 fun h15 =>
      gfR h15 1 fun p16 => ckH p16 (.inl 5) (
      gfI h15 p16 0 fun v17 =>
      pfI h15 p16 0 (v17 + (1 : Int32)) fun h18 =>
      some ((), h18)))))
    else
      (some ((), h9)))) fun j2 =>
  if v1 = 0 then
    (j2 h)
  else
    (bnd (g_X6_fail (1 : Int32) h) fun _ h19 => 
    j2 h19)
def g_X6_knownPerson (h : HH) : Option (Int32 × HH) :=
  gfI h 24 4 fun v1 =>
  if v1 = 0 then
    (gfR h 1 fun p2 => ckH p2 (.inl 5) (
    bnd (g_X6_value h) fun r4 h3 => 
    bnd (g_X5_personOf p2 r4 h3) fun r6 h5 => 
    bnd (g_X6_kind h5) fun r8 h7 => 
    jn (fun  (h11 : HH) =>
      bnd (g_X6_advance h11) fun _ h12 => 
      some (r6, h12)) fun j9 =>
    if r8 = (3 : Int32) then
      (if r6 = (-1 : Int32) then
        (bnd (g_X6_fail (4 : Int32) h7) fun _ h14 => 
        j9 h14)
      else
        (j9 h7))
    else
      (bnd (g_X6_fail (1 : Int32) h7) fun _ h16 => 
      j9 h16)))
  else
    (some ((-1 : Int32), h))
def g_X6_readGoing (a0 : Int32) (h : HH) : Option (Unit × HH) :=
  gfR h 1 fun p1 => ckH p1 (.inl 5) (
  gfI h p1 9 fun v2 =>
  bnd (g_X6_takeWord v2 (20 : Int32) h) fun _ h3 => 
  bnd (g_X6_knownPerson h3) fun r6 h5 => 
  bnd (g_X6_number (0 : Int32) (99 : Int32) h5) fun r8 h7 => 
  jn (fun (u12 : Int32) (h11 : HH) =>
    gfI h11 24 4 fun v13 =>
    if v13 = 0 then
      (gfR h11 1 fun p14 => ckH p14 (.inl 5) (
      gfR h11 1 fun p15 => ckH p15 (.inl 5) (
      gfI h11 p15 9 fun v16 =>
      stI h11 (p14 + 7) 20 v16 a0 fun h17 =>
      gfR h17 1 fun p18 => ckH p18 (.inl 5) (
      gfR h17 1 fun p19 => ckH p19 (.inl 5) (
      gfI h17 p19 9 fun v20 =>
      stI h17 (p18 + 8) 20 v20 r6 fun h21 =>
      gfR h21 1 fun p22 => ckH p22 (.inl 5) (
      gfR h21 1 fun p23 => ckH p23 (.inl 5) (
      gfI h21 p23 9 fun v24 =>
      stI h21 (p22 + 9) 20 v24 r8 fun h25 =>
      gfR h25 1 fun p26 => ckH p26 (.inl 5) (
      gfR h25 1 fun p27 => ckH p27 (.inl 5) (
      gfI h25 p27 9 fun v28 =>
      stI h25 (p26 + 10) 20 v28 u12 fun h29 =>
      gfR h29 1 fun p30 => ckH p30 (.inl 5) (
      gfI h29 p30 9 fun v31 =>
      pfI h29 p30 9 (v31 + (1 : Int32)) fun h32 =>
      some ((), h32)))))))))))
    else
      (some ((), h11))) fun j9 =>
  if a0 = (22 : Int32) then
    (gfR h7 1 fun p33 => ckH p33 (.inl 5) (
    gfI h7 p33 0 fun v34 =>
    bnd (g_X6_number (0 : Int32) v34 h7) fun r36 h35 => 
    j9 r36 h35))
  else
    (if a0 = (23 : Int32) then
      (bnd (g_X6_look (0 : Int32) (5 : Int32) h7) fun r38 h37 => 
      gfI h37 24 4 fun v39 =>
      jn (fun  (h42 : HH) =>
        bnd (g_X6_advance h42) fun _ h43 => 
        j9 r38 h43) fun j40 =>
      if v39 = 0 then
        (gfR h37 1 fun p45 => ckH p45 (.inl 5) (
        gfI h37 p45 5 fun v46 =>
        if r38 < v46 then
          (j40 h37)
        else
          (bnd (g_X6_fail (4 : Int32) h37) fun _ h47 => 
          j40 h47)))
      else
        (j40 h37))
    else
      (j9 (0 : Int32) h7)))
def g_X6_readLadder (h : HH) : Option (Unit × HH) :=
  gfR h 1 fun p1 => ckH p1 (.inl 5) (
  gfI h p1 5 fun v2 =>
  bnd (g_X6_takeWord v2 (6 : Int32) h) fun _ h3 => 
  gfR h3 1 fun p5 => ckH p5 (.inl 5) (
  gfI h3 p5 0 fun v6 =>
  bnd (g_X6_number (0 : Int32) v6 h3) fun r8 h7 => 
  gfR h7 1 fun p9 => ckH p9 (.inl 5) (
  gfI h7 p9 0 fun v10 =>
  bnd (g_X6_look (0 : Int32) v10 h7) fun r12 h11 => 
  gfI h11 24 4 fun v13 =>
  jn (fun  (h16 : HH) =>
    bnd (g_X6_advance h16) fun _ h17 => 
    bnd (g_X6_number (0 : Int32) (99 : Int32) h17) fun r20 h19 => 
    gfI h19 24 4 fun v21 =>
    if v21 = 0 then
      (gfR h19 1 fun p22 => ckH p22 (.inl 5) (
      gfR h19 1 fun p23 => ckH p23 (.inl 5) (
      gfI h19 p23 5 fun v24 =>
      stI h19 (p22 + 4) 6 v24 r8 fun h25 =>
      gfR h25 1 fun p26 => ckH p26 (.inl 5) (
      gfR h25 1 fun p27 => ckH p27 (.inl 5) (
      gfI h25 p27 5 fun v28 =>
      stI h25 (p26 + 5) 6 v28 r12 fun h29 =>
      gfR h29 1 fun p30 => ckH p30 (.inl 5) (
      gfR h29 1 fun p31 => ckH p31 (.inl 5) (
      gfI h29 p31 5 fun v32 =>
      stI h29 (p30 + 6) 6 v32 r20 fun h33 =>
      gfR h33 1 fun p34 => ckH p34 (.inl 5) (
      gfI h33 p34 5 fun v35 =>
      pfI h33 p34 5 (v35 + (1 : Int32)) fun h36 =>
      some ((), h36)))))))))
    else
      (some ((), h19))) fun j14 =>
  if v13 = 0 then
    (if r8 = r12 then
      (bnd (g_X6_fail (5 : Int32) h11) fun _ h37 => 
      j14 h37)
    else
      (j14 h11))
  else
    (j14 h11))))
def g_X6_await (a0 : Int32) (h : HH) : Option (Unit × HH) :=
  gfI h 24 4 fun v1 =>
  if v1 = 0 then
    (gfI h 24 9 fun v2 =>
    if v2 < (72 : Int32) then
      (gfI h 24 9 fun v3 =>
      stI h 29 72 v3 a0 fun h4 =>
      gfI h4 24 9 fun v5 =>
      pfI h4 24 9 (v5 + (1 : Int32)) fun h6 =>
      some ((), h6))
    else
      (some ((), h)))
  else
    (some ((), h))
def g_X6_emit (a0 : Int32) (a1 : Int32) (h : HH) : Option (Unit × HH) :=
  gfI h 24 4 fun v1 =>
  if v1 = 0 then
    (gfR h 1 fun p2 => ckH p2 (.inl 5) (
    bnd (g_X2_put (p2 + 11) a0 a1 h) fun _ h3 => 
    some ((), h3)))
  else
    (some ((), h))
def g_X6_takeKnot (h : HH) : Option (Unit × HH) :=
  gfI h 24 11 fun v1 =>
  jn (fun  (h4 : HH) =>
    gfI h4 24 11 fun v5 =>
    pfI h4 24 11 (v5 + (1 : Int32)) fun h6 =>
    bnd (g_X6_advance h6) fun _ h7 => 
    some ((), h7)) fun j2 =>
  if v1 < (64 : Int32) then
    (j2 h)
  else
    (bnd (g_X6_fail (2 : Int32) h) fun _ h9 => 
    j2 h9)
def g_X6_strength (a0 : Int32) (h : HH) : Option (Int32 × HH) :=
  if a0 = (32 : Int32) then
    (some ((1 : Int32), h))
  else
    (if a0 = (31 : Int32) then
      (some ((2 : Int32), h))
    else
      (if a0 = (33 : Int32) then
        (some ((3 : Int32), h))
      else
        (jn (fun  (h3 : HH) =>
          if a0 = (13 : Int32) then
            (some ((5 : Int32), h3))
          else
            (if a0 = (14 : Int32) then
              (some ((5 : Int32), h3))
            else
              (if a0 = (15 : Int32) then
                (some ((6 : Int32), h3))
              else
                (if a0 = (16 : Int32) then
                  (some ((6 : Int32), h3))
                else
                  (some ((0 : Int32), h3)))))) fun j1 =>
        if a0 < (7 : Int32) then
          (j1 h)
        else
          (if (12 : Int32) < a0 then
            (j1 h)
          else
            (some ((4 : Int32), h))))))
def g_X6_waitingStrength (h : HH) : Option (Int32 × HH) :=
  gfI h 24 9 fun v1 =>
  if 0 < v1 then
    (gfI h 24 9 fun v2 =>
    ldI h 29 72 (v2 - (1 : Int32)) fun v3 =>
    bnd (g_X6_strength v3 h) fun r5 h4 => 
    some (r5, h4))
  else
    (some ((0 : Int32), h))
def g_X6_readPart (a0 : Int32) (h : HH) : Option (Int32 × HH) :=
  if a0 = (5 : Int32) then
    (gfI h 24 10 fun v1 =>
    if v1 < (8 : Int32) then
      (gfI h 24 10 fun v2 =>
      pfI h 24 10 (v2 + (1 : Int32)) fun h3 =>
      bnd (g_X6_await a0 h3) fun _ h4 => 
      bnd (g_X6_advance h4) fun _ h6 => 
      some ((0 : Int32), h6))
    else
      (bnd (g_X6_fail (2 : Int32) h) fun _ h8 => 
      some ((0 : Int32), h8)))
  else
    (jn (fun  (h12 : HH) =>
      jn (fun (y16 : Int32) (h15 : HH) =>
        jn (fun  (h19 : HH) =>
          jn (fun (y23 : Int32) (h22 : HH) =>
            bnd (g_X6_takeKnot h22) fun _ h24 => 
            bnd (g_X6_emit a0 y23 h24) fun _ h26 => 
            some ((1 : Int32), h26)) fun j20 =>
          if y16 = 0 then
            (j20 (0 : Int32) h19)
          else
            (bnd (g_X6_look (0 : Int32) (9999 : Int32) h19) fun r29 h28 => 
            j20 r29 h28)) fun j17 =>
        if y16 = 0 then
          (jn (fun  (h32 : HH) =>
            bnd (g_X6_fail (1 : Int32) h32) fun _ h33 => 
            some ((0 : Int32), h33)) fun j30 =>
          if a0 < (34 : Int32) then
            (j30 h15)
          else
            (if (40 : Int32) < a0 then
              (j30 h15)
            else
              (j17 h15)))
        else
          (j17 h15)) fun j13 =>
      if a0 = (2 : Int32) then
        (j13 (1 : Int32) h12)
      else
        (j13 (0 : Int32) h12)) fun j10 =>
    if a0 = (33 : Int32) then
      (bnd (g_X6_waitingStrength h) fun r36 h35 => 
      if r36 < (4 : Int32) then
        (bnd (g_X6_takeKnot h35) fun _ h37 => 
        bnd (g_X6_await a0 h37) fun _ h39 => 
        some ((0 : Int32), h39))
      else
        (j10 h35))
    else
      (j10 h))
def g_X6_release_L5 (c1 : Int32) : Nat → Int32 → HH → Option (Unit × HH)
  | 0, _, _ => none
  | n + 1, x2, h =>
    if 0 < x2 then
      (bnd (g_X6_waitingStrength h) fun r3 h2 => 
      if r3 < c1 then
        (some ((), h2))
      else
        (gfI h2 24 9 fun v4 =>
        pfI h2 24 9 (v4 - (1 : Int32)) fun h5 =>
        gfI h5 24 9 fun v6 =>
        ldI h5 29 72 v6 fun v7 =>
        bnd (g_X6_emit v7 (0 : Int32) h5) fun _ h8 => 
        vl (x2 + (-1 : Int32)) fun v10 =>
        g_X6_release_L5 c1 n v10 h8))
    else
      (some ((), h))
def g_X6_release (a0 : Int32) (h : HH) : Option (Unit × HH) :=
  gfI h 24 9 fun v1 =>
  g_X6_release_L5 a0 1024 v1 h
def g_X6_readE_L20 (K172 : HH → Option (Unit × HH)) (K119 : HH → Option (Unit × HH)) : Nat → Int32 → Int32 → HH → Option (Unit × HH)
  | 0, _, _, _ => none
  | n + 1, x1, x2, h =>
    if 0 < x2 then
      (gfI h 24 4 fun v4 =>
      if v4 = 0 then
        (bnd (g_X6_kind h) fun r6 h5 => 
        bnd (g_X6_strength r6 h5) fun r8 h7 => 
        jn (fun (u12 : Int32) (h11 : HH) =>
          vl (x2 + (-1 : Int32)) fun v13 =>
          g_X6_readE_L20 K172 K119 n u12 v13 h11) fun j9 =>
        if x1 = 0 then
          (jn (fun  (h16 : HH) =>
            if r8 = 0 then
              (K172 h16)
            else
              (if r6 = (33 : Int32) then
                (K119 h16)
              else
                (bnd (g_X6_release (r8 + (1 : Int32)) h16) fun _ h17 => 
                jn (fun  (h21 : HH) =>
                  bnd (g_X6_release r8 h21) fun _ h22 => 
                  bnd (g_X6_takeKnot h22) fun _ h24 => 
                  bnd (g_X6_await r6 h24) fun _ h26 => 
                  j9 (1 : Int32) h26) fun j19 =>
                if r8 = (4 : Int32) then
                  (bnd (g_X6_waitingStrength h17) fun r29 h28 => 
                  if r29 = (4 : Int32) then
                    (bnd (g_X6_fail (1 : Int32) h28) fun _ h30 => 
                    j19 h30)
                  else
                    (j19 h28))
                else
                  (j19 h17)))) fun j14 =>
          if r6 = (6 : Int32) then
            (gfI h7 24 10 fun v32 =>
            if 0 < v32 then
              (bnd (g_X6_release (1 : Int32) h7) fun _ h33 => 
              gfI h33 24 9 fun v35 =>
              pfI h33 24 9 (v35 - (1 : Int32)) fun h36 =>
              gfI h36 24 10 fun v37 =>
              pfI h36 24 10 (v37 - (1 : Int32)) fun h38 =>
              bnd (g_X6_advance h38) fun _ h39 => 
              j9 x1 h39)
            else
              (j14 h7))
          else
            (j14 h7))
        else
          (bnd (g_X6_readPart r6 h7) fun r42 h41 => 
          jn (fun (y46 : Int32) (h45 : HH) =>
            j9 y46 h45) fun j43 =>
          if r42 = 0 then
            (j43 (1 : Int32) h41)
          else
            (j43 (0 : Int32) h41)))
      else
        (K172 h))
    else
      (K172 h)
def g_X6_readE (h : HH) : Option (Unit × HH) :=
  pfI h 24 9 (0 : Int32) fun h1 =>
  pfI h1 24 10 (0 : Int32) fun h2 =>
  gfI h2 25 3 fun v3 =>
  g_X6_readE_L20 (fun  (h47 : HH) =>
    gfI h47 24 10 fun v48 =>
    jn (fun  (h51 : HH) =>
      bnd (g_X6_release (1 : Int32) h51) fun _ h52 => 
      some ((), h52)) fun j49 =>
    if 0 < v48 then
      (bnd (g_X6_fail (1 : Int32) h47) fun _ h54 => 
      j49 h54)
    else
      (j49 h47)) (fun  (h56 : HH) =>
    gfI h56 24 10 fun v57 =>
    jn (fun  (h60 : HH) =>
      bnd (g_X6_release (1 : Int32) h60) fun _ h61 => 
      some ((), h61)) fun j58 =>
    if 0 < v57 then
      (bnd (g_X6_fail (1 : Int32) h56) fun _ h63 => 
      j58 h63)
    else
      (j58 h56)) 1024 (1 : Int32) v3 h2
def g_X6_readLaw (h : HH) : Option (Unit × HH) :=
  bnd (g_X6_advance h) fun _ h1 => 
  bnd (g_X6_kind h1) fun r4 h3 => 
  vl ((r4 - (28 : Int32))) fun v5 =>
  jn (fun  (h8 : HH) =>
    bnd (g_X6_fail (1 : Int32) h8) fun _ h9 => 
    some ((), h9)) fun j6 =>
  if v5 < 0 then
    (j6 h3)
  else
    (if v5 < (3 : Int32) then
      (gfR h3 1 fun p11 => ckH p11 (.inl 5) (
      bnd (g_X2_hasLaw (p11 + 11) v5 h3) fun r13 h12 => 
      if r13 = 0 then
        (bnd (g_X6_advance h12) fun _ h14 => 
        gfR h14 1 fun p16 => ckH p16 (.inl 5) (
        gfR h14 1 fun p17 => ckH p17 (.inl 5) (
        gfI h14 (p17 + 11) 2 fun v18 =>
        stI h14 (p16 + 14) 3 v5 v18 fun h19 =>
        bnd (g_X6_readE h19) fun _ h20 => 
        gfR h20 1 fun p22 => ckH p22 (.inl 5) (
        gfR h20 1 fun p23 => ckH p23 (.inl 5) (
        gfI h20 (p23 + 11) 2 fun v24 =>
        stI h20 (p22 + 15) 3 v5 v24 fun h25 =>
        some ((), h25))))))
      else
        (bnd (g_X6_fail (3 : Int32) h12) fun _ h26 => 
        some ((), h26))))
    else
      (j6 h3))
def g_X6_readPerson (h : HH) : Option (Unit × HH) :=
  gfR h 1 fun p1 => ckH p1 (.inl 5) (
  gfI h p1 2 fun v2 =>
  bnd (g_X6_takeWord v2 (6 : Int32) h) fun _ h3 => 
  bnd (g_X6_value h3) fun r6 h5 => 
  bnd (g_X6_kind h5) fun r8 h7 => 
  jn (fun  (h11 : HH) =>
    bnd (g_X6_advance h11) fun _ h12 => 
    gfR h12 1 fun p14 => ckH p14 (.inl 5) (
    gfI h12 p14 0 fun v15 =>
    bnd (g_X6_number (0 : Int32) v15 h12) fun r17 h16 => 
    bnd (g_X6_number (0 : Int32) (99 : Int32) h16) fun r19 h18 => 
    gfI h18 24 4 fun v20 =>
    if v20 = 0 then
      (gfR h18 1 fun p21 => ckH p21 (.inl 5) (
      gfR h18 1 fun p22 => ckH p22 (.inl 5) (
      gfI h18 p22 2 fun v23 =>
      stI h18 (p21 + 2) 6 v23 r6 fun h24 =>
      gfR h24 1 fun p25 => ckH p25 (.inl 5) (
      gfR h24 1 fun p26 => ckH p26 (.inl 5) (
      gfI h24 p26 2 fun v27 =>
      stI h24 (p25 + 3) 6 v27 r19 fun h28 =>
      gfR h28 1 fun p29 => ckH p29 (.inl 5) (
      gfR h28 1 fun p30 => ckH p30 (.inl 5) (
      gfI h28 p30 2 fun v31 =>
      stI h28 (p29 + 17) 6 v31 r17 fun h32 =>
      gfR h32 1 fun p33 => ckH p33 (.inl 5) (
      gfI h32 p33 2 fun v34 =>
      pfI h32 p33 2 (v34 + (1 : Int32)) fun h35 =>
      some ((), h35)))))))))
    else
      (some ((), h18)))) fun j9 =>
  if r8 = (3 : Int32) then
    (gfR h7 1 fun p36 => ckH p36 (.inl 5) (
    bnd (g_X5_personOf p36 r6 h7) fun r38 h37 => 
    if r38 = (-1 : Int32) then
      (j9 h37)
    else
      (bnd (g_X6_fail (3 : Int32) h37) fun _ h39 => 
      j9 h39)))
  else
    (bnd (g_X6_fail (1 : Int32) h7) fun _ h41 => 
    j9 h41))
def g_X6_readSeed (h : HH) : Option (Unit × HH) :=
  gfI h 24 8 fun v1 =>
  jn (fun  (h4 : HH) =>
    pfI h4 24 8 (1 : Int32) fun h5 =>
    bnd (g_X6_advance h5) fun _ h6 => 
    gfR h6 1 fun p8 => ckH p8 (.inl 5) (
    bnd (g_X6_number (0 : Int32) (99999 : Int32) h6) fun r10 h9 => 
    pfI h9 (p8 + 16) 6 r10 fun h11 =>
    some ((), h11))) fun j2 =>
  if v1 = 0 then
    (j2 h)
  else
    (bnd (g_X6_fail (3 : Int32) h) fun _ h12 => 
    j2 h12)
def g_X6_readSlip (h : HH) : Option (Unit × HH) :=
  gfI h 24 7 fun v1 =>
  jn (fun  (h4 : HH) =>
    pfI h4 24 7 (1 : Int32) fun h5 =>
    bnd (g_X6_advance h5) fun _ h6 => 
    gfR h6 1 fun p8 => ckH p8 (.inl 5) (
    bnd (g_X6_number (0 : Int32) (100 : Int32) h6) fun r10 h9 => 
    pfI h9 p8 15 r10 fun h11 =>
    some ((), h11))) fun j2 =>
  if v1 = 0 then
    (j2 h)
  else
    (bnd (g_X6_fail (3 : Int32) h) fun _ h12 => 
    j2 h12)
def g_X6_readTally (a0 : Int32) (h : HH) : Option (Unit × HH) :=
  bnd (g_X6_advance h) fun _ h1 => 
  bnd (g_X6_knownPerson h1) fun r4 h3 => 
  gfR h3 1 fun p5 => ckH p5 (.inl 5) (
  gfI h3 p5 0 fun v6 =>
  bnd (g_X6_look (0 : Int32) (v6 - (1 : Int32)) h3) fun r8 h7 => 
  gfI h7 24 4 fun v9 =>
  jn (fun  (h12 : HH) =>
    bnd (g_X6_advance h12) fun _ h13 => 
    bnd (g_X6_number (1 : Int32) (9 : Int32) h13) fun r16 h15 => 
    gfI h15 24 4 fun v17 =>
    if v17 = 0 then
      (gfR h15 1 fun p18 => ckH p18 (.inl 5) (
      bnd (g_X10_cell r4 r8 h15) fun r20 h19 => 
      stI h19 (p18 + 21) 36 r20 (a0 * r16) fun h21 =>
      some ((), h21)))
    else
      (some ((), h15))) fun j10 =>
  if v9 = 0 then
    (gfR h7 1 fun p22 => ckH p22 (.inl 5) (
    bnd (g_X10_cell r4 r8 h7) fun r24 h23 => 
    ldI h23 (p22 + 21) 36 r24 fun v25 =>
    if v25 = 0 then
      (j10 h23)
    else
      (bnd (g_X6_fail (3 : Int32) h23) fun _ h26 => 
      j10 h26)))
  else
    (j10 h7))
def g_X6_readLine (h : HH) : Option (Unit × HH) :=
  bnd (g_X6_kind h) fun r2 h1 => 
  jn (fun  (h5 : HH) =>
    jn (fun  (h8 : HH) =>
      gfI h8 24 4 fun v9 =>
      jn (fun  (h12 : HH) =>
        bnd (g_X6_advance h12) fun _ h13 => 
        some ((), h13)) fun j10 =>
      if v9 = 0 then
        (bnd (g_X6_kind h8) fun r16 h15 => 
        if r16 = (4 : Int32) then
          (j10 h15)
        else
          (bnd (g_X6_fail (1 : Int32) h15) fun _ h17 => 
          j10 h17))
      else
        (j10 h8)) fun j6 =>
    if r2 = (17 : Int32) then
      (bnd (g_X6_readFlight h5) fun _ h20 => 
      j6 h20)
    else
      (if r2 = (18 : Int32) then
        (bnd (g_X6_readPerson h5) fun _ h23 => 
        j6 h23)
      else
        (if r2 = (19 : Int32) ∨ r2 = (20 : Int32) then
          (jn (fun (y29 : Int32) (h28 : HH) =>
            bnd (g_X6_readTally y29 h28) fun _ h30 => 
            j6 h30) fun j26 =>
          if r2 = (19 : Int32) then
            (j26 (1 : Int32) h5)
          else
            (j26 (-1 : Int32) h5))
        else
          (if r2 = (21 : Int32) then
            (bnd (g_X6_readLadder h5) fun _ h33 => 
            j6 h33)
          else
            (if r2 = (22 : Int32) ∨ r2 = (23 : Int32) ∨ r2 = (24 : Int32) then
              (bnd (g_X6_readGoing r2 h5) fun _ h36 => 
              j6 h36)
            else
              (if r2 = (25 : Int32) then
                (bnd (g_X6_readSlip h5) fun _ h39 => 
                j6 h39)
              else
                (if r2 = (26 : Int32) then
                  (bnd (g_X6_readSeed h5) fun _ h42 => 
                  j6 h42)
                else
                  (if r2 = (27 : Int32) then
                    (bnd (g_X6_readLaw h5) fun _ h45 => 
                    j6 h45)
                  else
                    (bnd (g_X6_fail (1 : Int32) h5) fun _ h47 => 
                    j6 h47))))))))) fun j3 =>
  if r2 < (18 : Int32) then
    (j3 h1)
  else
    (if (24 : Int32) < r2 then
      (j3 h1)
    else
      (pfI h1 24 6 (1 : Int32) fun h49 =>
      j3 h49))
def g_X8_isDigit (a0 : Int32) (h : HH) : Option (Int32 × HH) :=
  if a0 < (48 : Int32) then
    (some ((0 : Int32), h))
  else
    (if (57 : Int32) < a0 then
      (some ((0 : Int32), h))
    else
      (some ((1 : Int32), h)))
def g_X8_put (a0 : Int32) (a1 : Int32) (a2 : Int32) (h : HH) : Option (Unit × HH) :=
  gfI h 25 3 fun v1 =>
  if v1 < (701 : Int32) then
    (gfI h 25 3 fun v2 =>
    stI h 26 701 v2 a0 fun h3 =>
    gfI h3 25 3 fun v4 =>
    stI h3 27 701 v4 a1 fun h5 =>
    gfI h5 25 3 fun v6 =>
    stI h5 28 701 v6 a2 fun h7 =>
    gfI h7 25 3 fun v8 =>
    pfI h7 25 3 (v8 + (1 : Int32)) fun h9 =>
    some ((), h9))
  else
    (some ((), h))
def g_X8_cutNumber_L6 (K48 : Int32 → Int32 → HH → Option (Int32 × HH)) (c2 : Int32) (c3 : Int32) : Nat → Int32 → Int32 → HH → Option (Int32 × HH)
  | 0, _, _, _ => none
  | n + 1, x4, x5, h =>
    if x5 < c3 then
      (ldI h 1 700 x5 fun v1 =>
      bnd (g_X8_isDigit v1 h) fun r3 h2 => 
      if r3 = 0 then
        (K48 x4 x5 h2)
      else
        (ldI h2 1 700 x5 fun v4 =>
        vl ((mnI (1000000 : Int32) (((x4 * (10 : Int32)) + v4) - (48 : Int32)))) fun v5 =>
        vl (x5 + (1 : Int32)) fun v6 =>
        g_X8_cutNumber_L6 K48 c2 c3 n v5 v6 h2))
    else
      (K48 x4 x5 h)
def g_X8_cutNumber (a1 : Int32) (a2 : Int32) (h : HH) : Option (Int32 × HH) :=
  g_X8_cutNumber_L6 (fun (z8 : Int32) (z9 : Int32) (h7 : HH) =>
    bnd (g_X8_put (2 : Int32) a1 z8 h7) fun _ h10 => 
    some (z9, h10)) a1 a2 1024 (0 : Int32) a1 h
def g_X8_doubleKind (a0 : Int32) (a1 : Int32) (h : HH) : Option (Int32 × HH) :=
  jn (fun  (h3 : HH) =>
    jn (fun  (h6 : HH) =>
      if a0 = (62 : Int32) then
        (if a1 = (61 : Int32) then
          (some ((11 : Int32), h6))
        else
          (some ((1 : Int32), h6)))
      else
        (some ((1 : Int32), h6))) fun j4 =>
    if a0 = (60 : Int32) then
      (if a1 = (62 : Int32) then
        (some ((10 : Int32), h3))
      else
        (j4 h3))
    else
      (j4 h3)) fun j1 =>
  if a0 = (60 : Int32) then
    (if a1 = (61 : Int32) then
      (some ((8 : Int32), h))
    else
      (j1 h))
  else
    (j1 h)
def g_X8_singleKind (a0 : Int32) (h : HH) : Option (Int32 × HH) :=
  if a0 = (40 : Int32) then
    (some ((5 : Int32), h))
  else
    (if a0 = (41 : Int32) then
      (some ((6 : Int32), h))
    else
      (if a0 = (42 : Int32) then
        (some ((15 : Int32), h))
      else
        (if a0 = (43 : Int32) then
          (some ((13 : Int32), h))
        else
          (if a0 = (45 : Int32) then
            (some ((14 : Int32), h))
          else
            (if a0 = (47 : Int32) then
              (some ((16 : Int32), h))
            else
              (if a0 = (59 : Int32) then
                (some ((4 : Int32), h))
              else
                (if a0 = (60 : Int32) then
                  (some ((7 : Int32), h))
                else
                  (if a0 = (61 : Int32) then
                    (some ((9 : Int32), h))
                  else
                    (if a0 = (62 : Int32) then
                      (some ((12 : Int32), h))
                    else
                      (some ((1 : Int32), h)))))))))))
def g_X8_cutSign (a1 : Int32) (a2 : Int32) (h : HH) : Option (Int32 × HH) :=
  jn (fun (y4 : Int32) (h3 : HH) =>
    ldI h3 1 700 a1 fun v5 =>
    bnd (g_X8_doubleKind v5 y4 h3) fun r7 h6 => 
    if r7 = (1 : Int32) then
      (ldI h6 1 700 a1 fun v8 =>
      bnd (g_X8_singleKind v8 h6) fun r10 h9 => 
      bnd (g_X8_put r10 a1 (0 : Int32) h9) fun _ h11 => 
      some ((a1 + (1 : Int32)), h11))
    else
      (bnd (g_X8_put r7 a1 (0 : Int32) h6) fun _ h13 => 
      some ((a1 + (2 : Int32)), h13))) fun j1 =>
  if (a1 + (1 : Int32)) < a2 then
    (ldI h 1 700 (a1 + (1 : Int32)) fun v15 =>
    j1 v15 h)
  else
    (j1 (0 : Int32) h)
def g_X8_isLetter (a0 : Int32) (h : HH) : Option (Int32 × HH) :=
  if a0 < (97 : Int32) then
    (some ((0 : Int32), h))
  else
    (if (122 : Int32) < a0 then
      (some ((0 : Int32), h))
    else
      (some ((1 : Int32), h)))
def g_X8_kindOf_L18 (K67 : Int32 → HH → Option (Int32 × HH)) (c0 : Int32) (c1 : Int32) : Nat → Int32 → Int32 → HH → Option (Int32 × HH)
  | 0, _, _, _ => none
  | n + 1, x2, x3, h =>
    if x3 < (6 : Int32) then
      (chS 0 ((c1 * (6 : Int32)) + x3) fun v1 =>
      bnd (g_X8_isLetter v1 h) fun r3 h2 => 
      jn (fun (y7 : Int32) (h6 : HH) =>
        vl (((x2 <<< ((5 : Int32) &&& 31)) ||| y7)) fun v8 =>
        vl (x3 + (1 : Int32)) fun v9 =>
        g_X8_kindOf_L18 K67 c0 c1 n v8 v9 h6) fun j4 =>
      if r3 = 0 then
        (j4 (0 : Int32) h2)
      else
        (j4 ((v1 - (97 : Int32)) + (1 : Int32)) h2))
    else
      (K67 x2 h)
def g_X8_kindOf_L2 (c0 : Int32) : Nat → Int32 → HH → Option (Int32 × HH)
  | 0, _, _ => none
  | n + 1, x1, h =>
    if (x1 * (6 : Int32)) < (144 : Int32) then
      (g_X8_kindOf_L18 (fun (z11 : Int32) (h10 : HH) =>
        if z11 = c0 then
          (some (((17 : Int32) + x1), h10))
        else
          (vl (x1 + (1 : Int32)) fun v12 =>
          g_X8_kindOf_L2 c0 n v12 h10)) c0 x1 1024 (0 : Int32) (0 : Int32) h)
    else
      (some ((3 : Int32), h))
def g_X8_kindOf (a0 : Int32) (h : HH) : Option (Int32 × HH) :=
  g_X8_kindOf_L2 a0 1024 (0 : Int32) h
def g_X8_cutWord_L6 (K60 : Int32 → Int32 → HH → Option (Int32 × HH)) (c2 : Int32) (c3 : Int32) : Nat → Int32 → Int32 → HH → Option (Int32 × HH)
  | 0, _, _, _ => none
  | n + 1, x4, x5, h =>
    if x5 < c3 then
      (ldI h 1 700 x5 fun v1 =>
      bnd (g_X8_isLetter v1 h) fun r3 h2 => 
      if r3 = 0 then
        (K60 x4 x5 h2)
      else
        (jn (fun (u7 : Int32) (h6 : HH) =>
          vl (x5 + (1 : Int32)) fun v8 =>
          g_X8_cutWord_L6 K60 c2 c3 n u7 v8 h6) fun j4 =>
        if (x5 - c2) < (6 : Int32) then
          (ldI h2 1 700 x5 fun v9 =>
          vl ((x4 ||| (((v9 - (97 : Int32)) + (1 : Int32)) <<< (((5 : Int32) * ((5 : Int32) - (x5 - c2))) &&& 31)))) fun v10 =>
          j4 v10 h2)
        else
          (j4 x4 h2)))
    else
      (K60 x4 x5 h)
def g_X8_cutWord (a1 : Int32) (a2 : Int32) (h : HH) : Option (Int32 × HH) :=
  g_X8_cutWord_L6 (fun (z12 : Int32) (z13 : Int32) (h11 : HH) =>
    jn (fun (y17 : Int32) (h16 : HH) =>
      bnd (g_X8_put y17 a1 z12 h16) fun _ h18 => 
      some (z13, h18)) fun j14 =>
    if (6 : Int32) < (z13 - a1) then
      (j14 (1 : Int32) h11)
    else
      (bnd (g_X8_kindOf z12 h11) fun r21 h20 => 
      j14 r21 h20)) a1 a2 1024 (0 : Int32) a1 h
def g_X8_cut_L10 (K97 : HH → Option (Unit × HH)) (c2 : Int32) : Nat → Int32 → Int32 → HH → Option (Unit × HH)
  | 0, _, _, _ => none
  | n + 1, x3, x4, h =>
    if 0 < x4 then
      (if x3 < c2 then
        (ldI h 1 700 x3 fun v2 =>
        jn (fun (u6 : Int32) (h5 : HH) =>
          vl (x4 + (-1 : Int32)) fun v7 =>
          g_X8_cut_L10 K97 c2 n u6 v7 h5) fun j3 =>
        jn (fun  (h10 : HH) =>
          vl (x3 + (1 : Int32)) fun v11 =>
          j3 v11 h10) fun j8 =>
        if v2 = (10 : Int32) then
          (j8 h)
        else
          (if v2 = (32 : Int32) then
            (j8 h)
          else
            (bnd (g_X8_isDigit v2 h) fun r13 h12 => 
            if r13 = 0 then
              (bnd (g_X8_isLetter v2 h12) fun r15 h14 => 
              if r15 = 0 then
                (bnd (g_X8_cutSign x3 c2 h14) fun r17 h16 => 
                j3 r17 h16)
              else
                (bnd (g_X8_cutWord x3 c2 h14) fun r19 h18 => 
                j3 r19 h18))
            else
              (bnd (g_X8_cutNumber x3 c2 h12) fun r21 h20 => 
              j3 r21 h20))))
      else
        (K97 h))
    else
      (K97 h)
def g_X8_cut (a1 : Int32) (h : HH) : Option (Unit × HH) :=
  pfI h 25 3 (0 : Int32) fun h1 =>
  g_X8_cut_L10 (fun  (h22 : HH) =>
    bnd (g_X8_put (0 : Int32) a1 (0 : Int32) h22) fun _ h23 => 
    some ((), h23)) a1 1024 (0 : Int32) a1 h1
def g_X6_read_L62 : Nat → Int32 → Int32 → HH → Option (Int32 × HH)
  | 0, _, _, _ => none
  | n + 1, x3, x4, h =>
    if 0 < x4 then
      (bnd (g_X6_kind h) fun r15 h14 => 
      if r15 = 0 then
        (some (x3, h14))
      else
        (gfI h14 24 4 fun v16 =>
        if v16 = 0 then
          (bnd (g_X6_readLine h14) fun _ h17 => 
          vl (x3 + (1 : Int32)) fun v19 =>
          vl (x4 + (-1 : Int32)) fun v20 =>
          g_X6_read_L62  n v19 v20 h17)
        else
          (some (x3, h14))))
    else
      (some (x3, h))
def g_X6_read (a1 : Int32) (h : HH) : Option (Int32 × HH) :=
  bnd (g_X8_cut a1 h) fun _ h1 => 
  gfR h1 1 fun p3 => ckH p3 (.inl 5) (
  bnd (g_X5_clear p3 h1) fun _ h4 => 
  pfI h4 24 3 (0 : Int32) fun h6 =>
  pfI h6 24 4 (0 : Int32) fun h7 =>
  pfI h7 24 5 (0 : Int32) fun h8 =>
  pfI h8 24 6 (0 : Int32) fun h9 =>
  pfI h9 24 7 (0 : Int32) fun h10 =>
  pfI h10 24 8 (0 : Int32) fun h11 =>
  pfI h11 24 11 (0 : Int32) fun h12 =>
  gfI h12 25 3 fun v13 =>
  g_X6_read_L62  1024 (0 : Int32) v13 h12)
def g_X7_tallies_L4 (b_this : Nat) : Nat → Int32 → Int32 → HH → Option (Int32 × HH)
  | 0, _, _, _ => none
  | n + 1, x1, x2, h =>
    if x2 < (36 : Int32) then
      (ldI h (b_this + 5) 36 x2 fun v1 =>
      jn (fun (u5 : Int32) (h4 : HH) =>
        vl (x2 + (1 : Int32)) fun v6 =>
        g_X7_tallies_L4 b_this n u5 v6 h4) fun j2 =>
      if v1 = 0 then
        (j2 x1 h)
      else
        (vl (x1 + (1 : Int32)) fun v7 =>
        j2 v7 h))
    else
      (some (x1, h))
def g_X7_tallies (this : Nat) (h : HH) : Option (Int32 × HH) :=
  ckH this (.inl 7) (
  g_X7_tallies_L4 this 1024 (0 : Int32) (0 : Int32) h)
def g_X7_sumOf_L4 (b_a0 : Nat) : Nat → Int32 → Int32 → HH → Option (Int32 × HH)
  | 0, _, _, _ => none
  | n + 1, x1, x2, h =>
    if x2 < (6 : Int32) then
      (ldI h b_a0 6 x2 fun v1 =>
      vl ((x1 + v1)) fun v2 =>
      vl (x2 + (1 : Int32)) fun v3 =>
      g_X7_sumOf_L4 b_a0 n v2 v3 h)
    else
      (some (x1, h))
def g_X7_sumOf (a0 : Nat) (h : HH) : Option (Int32 × HH) :=
  ckH a0 (.inr (0, 6, 0)) (
  g_X7_sumOf_L4 a0 1024 (0 : Int32) (0 : Int32) h)
def g_X9_move (this : Nat) (a0 : Int32) (a1 : Int32) (a2 : Int32) (h : HH) : Option (Unit × HH) :=
  ckH this (.inl 9) (
  ldI h (this + 1) 7 a0 fun v1 =>
  if v1 = (2147483647 : Int32) then
    (some ((), h))
  else
    (ldI h (this + 1) 7 a0 fun v2 =>
    vl ((v2 + a2)) fun v3 =>
    ldI h (this + 2) 7 a0 fun v4 =>
    vl ((v4 + (1 : Int32))) fun v5 =>
    ldI h (this + 1) 7 a1 fun v6 =>
    jn (fun  (h9 : HH) =>
      stI h9 (this + 1) 7 a1 v3 fun h10 =>
      stI h10 (this + 2) 7 a1 v5 fun h11 =>
      some ((), h11)) fun j7 =>
    if v3 < v6 then
      (j7 h)
    else
      (ldI h (this + 1) 7 a1 fun v12 =>
      if v3 = v12 then
        (ldI h (this + 2) 7 a1 fun v13 =>
        if v5 < v13 then
          (j7 h)
        else
          (some ((), h)))
      else
        (some ((), h)))))
def g_X9_seek_L40 (K69 : HH → Option (Unit × HH)) (b_this : Nat) (c2 : Int32) (b_p1 : Nat) : Nat → Int32 → HH → Option (Unit × HH)
  | 0, _, _ => none
  | n + 1, x4, h =>
    gfI h b_p1 0 fun v9 =>
    if x4 < v9 then
      (bnd (g_X0_costUp c2 x4 h) fun r11 h10 => 
      stI h10 (b_this + 3) 6 x4 r11 fun h12 =>
      vl (x4 + (1 : Int32)) fun v13 =>
      g_X9_seek_L40 K69 b_this c2 b_p1 n v13 h12)
    else
      (K69 h)
def g_X9_seek_L84 (K138 : HH → Option (Unit × HH)) (b_b_this : Nat) (b_b_p1 : Nat) (c4 : Int32) : Nat → Int32 → HH → Option (Unit × HH)
  | 0, _, _ => none
  | n + 1, x5, h =>
    gfI h b_b_p1 0 fun v16 =>
    if x5 < v16 then
      (ldI h (b_b_this + 3) 6 x5 fun v17 =>
      jn (fun  (h20 : HH) =>
        bnd (g_X9_move b_b_this (x5 + (1 : Int32)) x5 (0 : Int32) h20) fun _ h21 => 
        vl (x5 + (1 : Int32)) fun v23 =>
        g_X9_seek_L84 K138 b_b_this b_b_p1 c4 n v23 h21) fun j18 =>
      if v17 = (-1 : Int32) then
        (j18 h)
      else
        (ldI h (b_b_this + 3) 6 x5 fun v24 =>
        bnd (g_X9_move b_b_this x5 (x5 + (1 : Int32)) v24 h) fun _ h25 => 
        j18 h25))
    else
      (K138 h)
def g_X9_seek_L141 (K206 : HH → Option (Unit × HH)) (b_b_this : Nat) (b_b_p1 : Nat) (c4 : Int32) : Nat → Int32 → HH → Option (Unit × HH)
  | 0, _, _ => none
  | n + 1, x5, h =>
    gfI h b_b_p1 5 fun v28 =>
    if x5 < v28 then
      (ldI h (b_b_p1 + 4) 6 x5 fun v29 =>
      ldI h (b_b_p1 + 5) 6 x5 fun v30 =>
      ldI h (b_b_p1 + 6) 6 x5 fun v31 =>
      bnd (g_X9_move b_b_this v29 v30 v31 h) fun _ h32 => 
      ldI h32 (b_b_p1 + 5) 6 x5 fun v34 =>
      ldI h32 (b_b_p1 + 4) 6 x5 fun v35 =>
      ldI h32 (b_b_p1 + 6) 6 x5 fun v36 =>
      bnd (g_X9_move b_b_this v34 v35 v36 h32) fun _ h37 => 
      vl (x5 + (1 : Int32)) fun v39 =>
      g_X9_seek_L141 K206 b_b_this b_b_p1 c4 n v39 h37)
    else
      (K206 h)
def g_X9_seek_L72 (b_this : Nat) (b_p1 : Nat) : Nat → Int32 → HH → Option (Unit × HH)
  | 0, _, _ => none
  | n + 1, x4, h =>
    gfI h b_p1 0 fun v15 =>
    if x4 < v15 then
      (g_X9_seek_L84 (fun  (h27 : HH) =>
        g_X9_seek_L141 (fun  (h40 : HH) =>
          vl (x4 + (1 : Int32)) fun v41 =>
          g_X9_seek_L72 b_this b_p1 n v41 h40) b_this b_p1 x4 1024 (0 : Int32) h27) b_this b_p1 x4 1024 (0 : Int32) h)
    else
      (some ((), h))
def g_X9_seek (this : Nat) (a1 : Int32) (h : HH) : Option (Unit × HH) :=
  ckH this (.inl 9) (
  gfR h 2 fun p1 => ckH p1 (.inl 5) (
  bnd (g_J7_fill_53178 (this + 1) (2147483647 : Int32) h) fun _ h2 => 
  bnd (g_J7_fill_53178 (this + 2) (0 : Int32) h2) fun _ h4 => 
  gfR h4 3 fun p6 => ckH p6 (.inl 7) (
  ldI h4 (p6 + 1) 6 a1 fun v7 =>
  stI h4 (this + 1) 7 v7 (0 : Int32) fun h8 =>
  g_X9_seek_L40 (fun  (h14 : HH) =>
    g_X9_seek_L72 this p1 1024 (0 : Int32) h14) this a1 p1 1024 (0 : Int32) h8)))
def g_X10_putBytes_L3 (c1 : Int32) : Nat → Int32 → HH → Option (Unit × HH)
  | 0, _, _ => none
  | n + 1, x2, h =>
    if x2 < 0 then
      (some ((), h))
    else
      (gfI h 0 1 fun v1 =>
      if v1 < (700 : Int32) then
        (gfI h 0 1 fun v2 =>
        stI h 1 700 v2 (vp_nar .byte (Int8.toInt32 (Int32.toInt8 (((c1).toUInt32 >>> ((x2).toUInt32 &&& Int32.toUInt32 31)).toInt32)))) fun h3 =>
        gfI h3 0 1 fun v4 =>
        pfI h3 0 1 (v4 + (1 : Int32)) fun h5 =>
        vl (x2 + (-8 : Int32)) fun v6 =>
        g_X10_putBytes_L3 c1 n v6 h5)
      else
        (some ((), h)))
def g_X10_putBytes (a0 : Int32) (h : HH) : Option (Unit × HH) :=
  g_X10_putBytes_L3 a0 1024 (24 : Int32) h
def g_X10_feed (a0 : Int32) (a1 : Int32) (a2 : Int32) (a3 : Int32) (a4 : Int32) (h : HH) : Option (Int32 × HH) :=
  gfI h 0 1 fun v1 =>
  if (700 : Int32) < (v1 + (20 : Int32)) then
    (some ((-1 : Int32), h))
  else
    (bnd (g_X10_putBytes a0 h) fun _ h2 => 
    bnd (g_X10_putBytes a1 h2) fun _ h4 => 
    bnd (g_X10_putBytes a2 h4) fun _ h6 => 
    bnd (g_X10_putBytes a3 h6) fun _ h8 => 
    bnd (g_X10_putBytes a4 h8) fun _ h10 => 
    gfI h10 0 1 fun v12 =>
    some (v12, h10))
def g_X10_text (a0 : Int32) (h : HH) : Option (Int32 × HH) :=
  if a0 < 0 then
    (some ((-2 : Int32), h))
  else
    (gfI h 0 1 fun v1 =>
    if v1 < a0 then
      (some ((-2 : Int32), h))
    else
      (pfI h 0 1 (0 : Int32) fun h2 =>
      bnd (g_X6_read a0 h2) fun r4 h3 => 
      gfI h3 24 4 fun v5 =>
      if v5 = 0 then
        (gfR h3 1 fun p6 => ckH p6 (.inl 5) (
        gfR h3 0 fun p7 => ckH p7 (.inl 5) (
        pfR h3 1 p7 fun h8 =>
        pfR h8 0 p6 fun h9 =>
        gfR h9 0 fun p10 => ckH p10 (.inl 5) (
        bnd (g_X7_take 52 (p10 + 16) h9) fun _ h11 => 
        bnd (g_X3_clear h11) fun _ h13 => 
        pfI h13 0 6 (0 : Int32) fun h15 =>
        bnd (g_X4_clear h15) fun _ h16 => 
        some (r4, h16)))))
      else
        (some ((-1 : Int32), h3))))
def g_X10_fault (a0 : Int32) (h : HH) : Option (Int32 × HH) :=
  if a0 = 0 then
    (gfI h 24 4 fun v1 =>
    some (v1, h))
  else
    (if a0 = (1 : Int32) then
      (gfI h 24 4 fun v2 =>
      if v2 = 0 then
        (some ((-1 : Int32), h))
      else
        (gfI h 24 5 fun v3 =>
        some (v3, h)))
    else
      (some ((-1 : Int32), h)))
def g_X10_isPerson (a0 : Int32) (h : HH) : Option (Int32 × HH) :=
  if a0 < 0 then
    (some ((0 : Int32), h))
  else
    (gfR h 0 fun p1 => ckH p1 (.inl 5) (
    gfI h p1 2 fun v2 =>
    if a0 < v2 then
      (some ((1 : Int32), h))
    else
      (some ((0 : Int32), h))))
def g_X10_isFlight (a0 : Int32) (h : HH) : Option (Int32 × HH) :=
  if a0 < 0 then
    (some ((0 : Int32), h))
  else
    (gfR h 0 fun p1 => ckH p1 (.inl 5) (
    gfI h p1 0 fun v2 =>
    if a0 < v2 then
      (some ((1 : Int32), h))
    else
      (some ((0 : Int32), h))))
def g_X10_isFloor (a0 : Int32) (h : HH) : Option (Int32 × HH) :=
  if a0 < 0 then
    (some ((0 : Int32), h))
  else
    (gfR h 0 fun p1 => ckH p1 (.inl 5) (
    gfI h p1 0 fun v2 =>
    if v2 < a0 then
      (some ((0 : Int32), h))
    else
      (some ((1 : Int32), h))))
def g_X10_isPair (a0 : Int32) (a1 : Int32) (h : HH) : Option (Int32 × HH) :=
  bnd (g_X10_isPerson a0 h) fun r2 h1 => 
  if r2 = 0 then
    (some ((0 : Int32), h1))
  else
    (bnd (g_X10_isPerson a1 h1) fun r4 h3 => 
    if r4 = 0 then
      (some ((0 : Int32), h3))
    else
      (if a0 = a1 then
        (some ((0 : Int32), h3))
      else
        (some ((1 : Int32), h3))))
def g_X10_lookAtNow (h : HH) : Option (Unit × HH) :=
  gfR h 0 fun p1 => ckH p1 (.inl 5) (
  bnd (g_X0_begin p1 52 (2 : Int32) h) fun _ h2 => 
  some ((), h2))
def g_X10_named (a0 : Int32) (h : HH) : Option (Int32 × HH) :=
  gfR h 0 fun p1 => ckH p1 (.inl 5) (
  bnd (g_X5_personOf p1 a0 h) fun r3 h2 => 
  some (r3, h2))
def g_X10_tally (a0 : Int32) (a1 : Int32) (h : HH) : Option (Int32 × HH) :=
  bnd (g_X10_isPerson a0 h) fun r2 h1 => 
  if r2 = 0 then
    (some ((-2147483648 : Int32), h1))
  else
    (bnd (g_X10_isFlight a1 h1) fun r4 h3 => 
    if r4 = 0 then
      (some ((-2147483648 : Int32), h3))
    else
      (bnd (g_X10_cell a0 a1 h3) fun r6 h5 => 
      ldI h5 57 36 r6 fun v7 =>
      some (v7, h5)))
def g_X10_steep (a0 : Int32) (a1 : Int32) (h : HH) : Option (Int32 × HH) :=
  bnd (g_X10_isPerson a0 h) fun r2 h1 => 
  if r2 = 0 then
    (some ((-2147483648 : Int32), h1))
  else
    (bnd (g_X10_isFlight a1 h1) fun r4 h3 => 
    if r4 = 0 then
      (some ((-2147483648 : Int32), h3))
    else
      (bnd (g_X10_lookAtNow h3) fun _ h5 => 
      bnd (g_X0_steepOf a0 a1 (0 : Int32) h5) fun r8 h7 => 
      some (r8, h7)))
def g_X10_told (a0 : Int32) (h : HH) : Option (Int32 × HH) :=
  dvI a0 (6 : Int32) fun v1 =>
  rmI a0 (6 : Int32) fun v2 =>
  some (((v1 * (10 : Int32)) + v2), h)
def g_X10_entry_L10 (K38 : Int32 → HH → Option (Int32 × HH)) : Nat → Int32 → Int32 → HH → Option (Int32 × HH)
  | 0, _, _, _ => none
  | n + 1, x2, x3, h =>
    if x3 < (36 : Int32) then
      (ldI h 57 36 x3 fun v1 =>
      jn (fun (u5 : Int32) (h4 : HH) =>
        vl (x3 + (1 : Int32)) fun v6 =>
        g_X10_entry_L10 K38 n u5 v6 h4) fun j2 =>
      if v1 = 0 then
        (j2 x2 h)
      else
        (if x2 = 0 then
          (K38 x3 h)
        else
          (vl (x2 + (-1 : Int32)) fun v7 =>
          j2 v7 h)))
    else
      (some ((-2 : Int32), h))
def g_X10_entry (a0 : Int32) (h : HH) : Option (Int32 × HH) :=
  if a0 < 0 then
    (some ((-1 : Int32), h))
  else
    (g_X10_entry_L10 (fun (z9 : Int32) (h8 : HH) =>
      bnd (g_X10_told z9 h8) fun r11 h10 => 
      some (r11, h10)) 1024 a0 (0 : Int32) h)
def g_X10_beside_L48 (K79 : Int32 → HH → Option (Int32 × HH)) (c4 : Int32) : Nat → Int32 → HH → Option (Int32 × HH)
  | 0, _, _ => none
  | n + 1, x5, h =>
    if x5 < 0 then
      (some ((-2 : Int32), h))
    else
      (if x5 < (36 : Int32) then
        (ldI h 57 36 x5 fun v12 =>
        if v12 = 0 then
          (vl ((x5 + c4)) fun v13 =>
          g_X10_beside_L48 K79 c4 n v13 h)
        else
          (K79 x5 h))
      else
        (some ((-2 : Int32), h)))
def g_X10_beside (a0 : Int32) (a1 : Int32) (a2 : Int32) (h : HH) : Option (Int32 × HH) :=
  bnd (g_X10_isPerson a0 h) fun r2 h1 => 
  if r2 = 0 then
    (some ((-1 : Int32), h1))
  else
    (bnd (g_X10_isFlight a1 h1) fun r4 h3 => 
    if r4 = 0 then
      (some ((-1 : Int32), h3))
    else
      (if a2 < 0 then
        (some ((-1 : Int32), h3))
      else
        (if (1 : Int32) < a2 then
          (some ((-1 : Int32), h3))
        else
          (jn (fun (y8 : Int32) (h7 : HH) =>
            bnd (g_X10_cell a0 a1 h7) fun r10 h9 => 
            vl ((r10 + y8)) fun v11 =>
            g_X10_beside_L48 (fun (z15 : Int32) (h14 : HH) =>
              bnd (g_X10_told z15 h14) fun r17 h16 => 
              some (r17, h16)) y8 1024 v11 h9) fun j5 =>
          if a2 = 0 then
            (j5 (1 : Int32) h3)
          else
            (j5 (-1 : Int32) h3)))))
def g_X10_aheadInCrowd_L4 (c1 : Int32) : Nat → Int32 → Int32 → HH → Option (Int32 × HH)
  | 0, _, _, _ => none
  | n + 1, x2, x3, h =>
    gfR h 0 fun p1 => ckH p1 (.inl 5) (
    gfI h p1 2 fun v2 =>
    if x3 < v2 then
      (gfR h 0 fun p3 => ckH p3 (.inl 5) (
      ldI h (p3 + 3) 6 x3 fun v4 =>
      gfR h 0 fun p5 => ckH p5 (.inl 5) (
      ldI h (p5 + 3) 6 c1 fun v6 =>
      jn (fun (y10 : Int32) (h9 : HH) =>
        jn (fun (u14 : Int32) (h13 : HH) =>
          vl (x3 + (1 : Int32)) fun v15 =>
          g_X10_aheadInCrowd_L4 c1 n u14 v15 h13) fun j11 =>
        if y10 = 0 then
          (j11 x2 h9)
        else
          (ldI h9 53 6 x3 fun v16 =>
          ldI h9 53 6 c1 fun v17 =>
          if v16 = v17 then
            (vl (x2 + (1 : Int32)) fun v18 =>
            j11 v18 h9)
          else
            (j11 x2 h9))) fun j7 =>
      jn (fun  (h21 : HH) =>
        j7 (1 : Int32) h21) fun j19 =>
      if v6 < v4 then
        (j19 h)
      else
        (gfR h 0 fun p22 => ckH p22 (.inl 5) (
        ldI h (p22 + 3) 6 x3 fun v23 =>
        gfR h 0 fun p24 => ckH p24 (.inl 5) (
        ldI h (p24 + 3) 6 c1 fun v25 =>
        jn (fun  (h28 : HH) =>
          j7 (0 : Int32) h28) fun j26 =>
        if v23 = v25 then
          (if x3 < c1 then
            (j19 h)
          else
            (j26 h))
        else
          (j26 h)))))))
    else
      (some (x2, h)))
def g_X10_aheadInCrowd (a0 : Int32) (h : HH) : Option (Int32 × HH) :=
  g_X10_aheadInCrowd_L4 a0 1024 (0 : Int32) (0 : Int32) h
def g_X10_crowd_L16 (c1 : Int32) (c2 : Int32) : Nat → Int32 → HH → Option (Int32 × HH)
  | 0, _, _ => none
  | n + 1, x3, h =>
    gfR h 0 fun p3 => ckH p3 (.inl 5) (
    gfI h p3 2 fun v4 =>
    if x3 < v4 then
      (ldI h 53 6 x3 fun v5 =>
      jn (fun  (h8 : HH) =>
        vl (x3 + (1 : Int32)) fun v9 =>
        g_X10_crowd_L16 c1 c2 n v9 h8) fun j6 =>
      if v5 = c1 then
        (bnd (g_X10_aheadInCrowd x3 h) fun r11 h10 => 
        if r11 = c2 then
          (some (x3, h10))
        else
          (j6 h10))
      else
        (j6 h))
    else
      (some ((-2 : Int32), h)))
def g_X10_crowd (a0 : Int32) (a1 : Int32) (h : HH) : Option (Int32 × HH) :=
  bnd (g_X10_isFloor a0 h) fun r2 h1 => 
  if r2 = 0 then
    (some ((-1 : Int32), h1))
  else
    (if a1 < 0 then
      (some ((-1 : Int32), h1))
    else
      (g_X10_crowd_L16 a0 a1 1024 (0 : Int32) h1))
def g_X10_order (a0 : Int32) (a1 : Int32) (h : HH) : Option (Int32 × HH) :=
  if a0 < 0 then
    (some ((-1 : Int32), h))
  else
    (if a0 < (100 : Int32) then
      (if a1 < 0 then
        (some ((-1 : Int32), h))
      else
        (bnd (g_X10_lookAtNow h) fun _ h1 => 
        bnd (g_X0_lineUp a0 h1) fun _ h3 => 
        gfI h3 193 3 fun v5 =>
        if a1 < v5 then
          (ldI h3 194 20 a1 fun v6 =>
          some (v6, h3))
        else
          (some ((-2 : Int32), h3))))
    else
      (some ((-1 : Int32), h)))
def g_X10_soon (a0 : Int32) (h : HH) : Option (Int32 × HH) :=
  if a0 < 0 then
    (some ((-1 : Int32), h))
  else
    (if a0 < (100 : Int32) then
      (gfR h 0 fun p1 => ckH p1 (.inl 5) (
      bnd (g_X5_firstHour p1 a0 h) fun r3 h2 => 
      if r3 = (-1 : Int32) then
        (some ((-2 : Int32), h2))
      else
        (some (r3, h2))))
    else
      (some ((-1 : Int32), h)))
def g_X10_law (a0 : Int32) (a1 : Int32) (a2 : Int32) (h : HH) : Option (Int64 × HH) :=
  if a0 < 0 then
    (some ((-9223372036854775808 : Int64), h))
  else
    (if a0 < (3 : Int32) then
      (bnd (g_X10_isPerson a1 h) fun r2 h1 => 
      if r2 = 0 then
        (some ((-9223372036854775808 : Int64), h1))
      else
        (bnd (g_X10_isFlight a2 h1) fun r4 h3 => 
        if r4 = 0 then
          (some ((-9223372036854775808 : Int64), h3))
        else
          (bnd (g_X10_lookAtNow h3) fun _ h5 => 
          bnd (g_X0_valueOf a0 a1 a2 (0 : Int32) h5) fun r8 h7 => 
          some (r8, h7))))
    else
      (some ((-9223372036854775808 : Int64), h)))
def g_X10_count (a0 : Int32) (h : HH) : Option (Int32 × HH) :=
  if a0 = (0 : Int32) then
    (gfR h 0 fun p2 => ckH p2 (.inl 5) (
    gfI h p2 0 fun v3 =>
    some (v3, h)))
  else
    (if a0 = (1 : Int32) then
      (gfR h 0 fun p5 => ckH p5 (.inl 5) (
      gfI h p5 2 fun v6 =>
      some (v6, h)))
    else
      (if a0 = (2 : Int32) then
        (gfR h 0 fun p8 => ckH p8 (.inl 5) (
        gfI h p8 5 fun v9 =>
        some (v9, h)))
      else
        (if a0 = (3 : Int32) then
          (gfR h 0 fun p11 => ckH p11 (.inl 5) (
          gfI h p11 9 fun v12 =>
          some (v12, h)))
        else
          (if a0 = (4 : Int32) then
            (gfR h 0 fun p14 => ckH p14 (.inl 5) (
            gfI h (p14 + 11) 2 fun v15 =>
            some (v15, h)))
          else
            (if a0 = (5 : Int32) then
              (gfI h 52 5 fun v17 =>
              some (v17, h))
            else
              (if a0 = (6 : Int32) then
                (bnd (g_X7_tallies 52 h) fun r20 h19 => 
                some (r20, h19))
              else
                (if a0 = (7 : Int32) then
                  (bnd (g_X7_sumOf 54 h) fun r23 h22 => 
                  some (r23, h22))
                else
                  (if a0 = (8 : Int32) then
                    (bnd (g_X7_sumOf 55 h) fun r26 h25 => 
                    some (r26, h25))
                  else
                    (if a0 = (9 : Int32) then
                      (bnd (g_X7_sumOf 56 h) fun r29 h28 => 
                      some (r29, h28))
                    else
                      (if a0 = (10 : Int32) then
                        (bnd (g_X7_sumOf 53 h) fun r32 h31 => 
                        some (r32, h31))
                      else
                        (if a0 = (11 : Int32) then
                          (gfI h 186 6 fun v34 =>
                          some (v34, h))
                        else
                          (if a0 = (12 : Int32) then
                            (bnd (g_X3_knownBy h) fun r37 h36 => 
                            some (r37, h36))
                          else
                            (if a0 = (13 : Int32) then
                              (gfI h 64 2 fun v39 =>
                              some (v39, h))
                            else
                              (some ((-1 : Int32), h)))))))))))))))
def g_X10_walk (a0 : Int32) (a1 : Int32) (h : HH) : Option (Int32 × HH) :=
  bnd (g_X10_isPerson a0 h) fun r2 h1 => 
  if r2 = 0 then
    (some ((-1 : Int32), h1))
  else
    (bnd (g_X10_isFloor a1 h1) fun r4 h3 => 
    if r4 = 0 then
      (some ((-1 : Int32), h3))
    else
      (bnd (g_X4_push 52 h3) fun _ h5 => 
      gfR h5 0 fun p7 => ckH p7 (.inl 5) (
      bnd (g_X0_begin p7 52 (1 : Int32) h5) fun _ h8 => 
      bnd (g_X0_walkTo a0 a1 h8) fun r11 h10 => 
      ldI h10 53 6 a0 fun v12 =>
      some (v12, h10))))
def g_X10_carry (a0 : Int32) (a1 : Int32) (h : HH) : Option (Int32 × HH) :=
  bnd (g_X10_isPerson a0 h) fun r2 h1 => 
  if r2 = 0 then
    (some ((0 : Int32), h1))
  else
    (bnd (g_X10_isFloor a1 h1) fun r4 h3 => 
    if r4 = 0 then
      (some ((0 : Int32), h3))
    else
      (ldI h3 53 6 a0 fun v5 =>
      if v5 = a1 then
        (some ((0 : Int32), h3))
      else
        (bnd (g_X4_push 52 h3) fun _ h6 => 
        stI h6 53 6 a0 a1 fun h8 =>
        some ((1 : Int32), h8))))
def g_X10_right (a0 : Int32) (a1 : Int32) (h : HH) : Option (Int32 × HH) :=
  bnd (g_X10_isPerson a0 h) fun r2 h1 => 
  if r2 = 0 then
    (some ((-2147483648 : Int32), h1))
  else
    (bnd (g_X10_isFlight a1 h1) fun r4 h3 => 
    if r4 = 0 then
      (some ((-2147483648 : Int32), h3))
    else
      (bnd (g_X10_cell a0 a1 h3) fun r6 h5 => 
      ldI h5 57 36 r6 fun v7 =>
      if v7 = 0 then
        (some ((-2147483648 : Int32), h5))
      else
        (bnd (g_X4_push 52 h5) fun _ h8 => 
        bnd (g_X10_cell a0 a1 h8) fun r11 h10 => 
        stI h10 57 36 r11 (0 : Int32) fun h12 =>
        some (v7, h12))))
def g_X10_go (a0 : Int32) (h : HH) : Option (Int32 × HH) :=
  if a0 < 0 then
    (some ((-1 : Int32), h))
  else
    (if (200 : Int32) < a0 then
      (some ((-1 : Int32), h))
    else
      (gfI h 52 5 fun v1 =>
      if (9800 : Int32) < (v1 + a0) then
        (some ((-1 : Int32), h))
      else
        (jn (fun  (h4 : HH) =>
          gfR h4 0 fun p5 => ckH p5 (.inl 5) (
          bnd (g_X0_begin p5 52 (0 : Int32) h4) fun _ h6 => 
          bnd (g_X0_pass a0 h6) fun _ h8 => 
          gfI h8 52 5 fun v10 =>
          some (v10, h8))) fun j2 =>
        if 0 < a0 then
          (bnd (g_X4_clear h) fun _ h11 => 
          j2 h11)
        else
          (j2 h))))
def g_X10_undo (h : HH) : Option (Int32 × HH) :=
  bnd (g_X4_pop 52 h) fun r2 h1 => 
  if r2 = 0 then
    (some ((-1 : Int32), h1))
  else
    (gfI h1 64 2 fun v3 =>
    some (v3, h1))
def g_X10_keep (h : HH) : Option (Int32 × HH) :=
  bnd (g_X7_take 58 52 h) fun _ h1 => 
  pfI h1 0 6 (1 : Int32) fun h3 =>
  gfI h3 58 5 fun v4 =>
  some (v4, h3)
def g_X10_back (h : HH) : Option (Int32 × HH) :=
  gfI h 0 6 fun v1 =>
  if v1 = 0 then
    (some ((-1 : Int32), h))
  else
    (bnd (g_X7_take 52 58 h) fun _ h2 => 
    bnd (g_X4_clear h2) fun _ h4 => 
    gfI h4 52 5 fun v6 =>
    some (v6, h4))
def g_X10_startTrial (a0 : Int32) (h : HH) : Option (Nat × HH) :=
  bnd (g_X7_take 196 52 h) fun _ h1 => 
  gfR h1 0 fun p3 => ckH p3 (.inl 5) (
  bnd (g_X0_begin p3 196 a0 h1) fun _ h4 => 
  some (196, h4))
def g_X10_ahead (a0 : Int32) (a1 : Int32) (a2 : Int32) (h : HH) : Option (Int32 × HH) :=
  jn (fun (y4 : Int32) (h3 : HH) =>
    if a0 < 0 then
      (some ((-1 : Int32), h3))
    else
      (if (200 : Int32) < a0 then
        (some ((-1 : Int32), h3))
      else
        (if a1 < 0 then
          (some ((-1 : Int32), h3))
        else
          (if (4 : Int32) < a1 then
            (some ((-1 : Int32), h3))
          else
            (jn (fun  (h7 : HH) =>
              bnd (g_X10_startTrial (1 : Int32) h7) fun r9 h8 => ckH r9 (.inl 7) (
              bnd (g_X0_pass a0 h8) fun _ h10 => 
              if a1 = (0 : Int32) then
                (ldI h10 (r9 + 1) 6 a2 fun v13 =>
                some (v13, h10))
              else
                (if a1 = (1 : Int32) then
                  (ldI h10 (r9 + 2) 6 a2 fun v15 =>
                  some (v15, h10))
                else
                  (if a1 = (2 : Int32) then
                    (bnd (g_X7_sumOf (r9 + 3) h10) fun r18 h17 => 
                    bnd (g_X7_sumOf 55 h17) fun r20 h19 => 
                    some ((r18 - r20), h19))
                  else
                    (if a1 = (3 : Int32) then
                      (bnd (g_X7_sumOf (r9 + 4) h10) fun r23 h22 => 
                      bnd (g_X7_sumOf 56 h22) fun r25 h24 => 
                      some ((r23 - r25), h24))
                    else
                      (bnd (g_X7_tallies r9 h10) fun r27 h26 => 
                      some (r27, h26))))))) fun j5 =>
            if y4 = 0 then
              (j5 h3)
            else
              (bnd (g_X10_isPerson a2 h3) fun r29 h28 => 
              if r29 = 0 then
                (some ((-1 : Int32), h28))
              else
                (j5 h28))))))) fun j1 =>
  jn (fun  (h32 : HH) =>
    j1 (1 : Int32) h32) fun j30 =>
  if a1 = 0 then
    (j30 h)
  else
    (if a1 = (1 : Int32) then
      (j30 h)
    else
      (j1 (0 : Int32) h))
def g_X10_there_L27 (c1 : Int32) (c2 : Int32) (b_r6 : Nat) : Nat → Int32 → HH → Option (Int32 × HH)
  | 0, _, _ => none
  | n + 1, x4, h =>
    if x4 < (200 : Int32) then
      (ldI h (b_r6 + 1) 6 c1 fun v7 =>
      if v7 = c2 then
        (some (x4, h))
      else
        (bnd (g_X0_passOne h) fun _ h8 => 
        vl (x4 + (1 : Int32)) fun v10 =>
        g_X10_there_L27 c1 c2 b_r6 n v10 h8))
    else
      (some ((-2 : Int32), h))
def g_X10_there (a0 : Int32) (a1 : Int32) (h : HH) : Option (Int32 × HH) :=
  bnd (g_X10_isPerson a0 h) fun r2 h1 => 
  if r2 = 0 then
    (some ((-1 : Int32), h1))
  else
    (bnd (g_X10_isFloor a1 h1) fun r4 h3 => 
    if r4 = 0 then
      (some ((-1 : Int32), h3))
    else
      (bnd (g_X10_startTrial (1 : Int32) h3) fun r6 h5 => ckH r6 (.inl 7) (
      g_X10_there_L27 a0 a1 r6 1024 (0 : Int32) h5)))
def g_X10_highest (a0 : Int32) (h : HH) : Option (Int32 × HH) :=
  bnd (g_X10_isPerson a0 h) fun r2 h1 => 
  if r2 = 0 then
    (some ((-1 : Int32), h1))
  else
    (bnd (g_X10_startTrial (2 : Int32) h1) fun r4 h3 => ckH r4 (.inl 7) (
    gfR h3 0 fun p5 => ckH p5 (.inl 5) (
    gfI h3 p5 0 fun v6 =>
    bnd (g_X0_walkTo a0 v6 h3) fun r8 h7 => 
    ldI h7 (r4 + 1) 6 a0 fun v9 =>
    some (v9, h7))))
def g_X10_climbs_L34 (c1 : Int32) (c2 : Int32) (b_r6 : Nat) : Nat → Int32 → Int32 → HH → Option (Int32 × HH)
  | 0, _, _, _ => none
  | n + 1, x4, x5, h =>
    if x5 < (99 : Int32) then
      (stI h (b_r6 + 1) 6 c1 (0 : Int32) fun h7 =>
      bnd (g_X0_walkTo c1 c2 h7) fun r9 h8 => 
      if r9 = 0 then
        (some (x4, h8))
      else
        (vl (x4 + (1 : Int32)) fun v10 =>
        vl (x5 + (1 : Int32)) fun v11 =>
        g_X10_climbs_L34 c1 c2 b_r6 n v10 v11 h8))
    else
      (some (x4, h))
def g_X10_climbs (a0 : Int32) (a1 : Int32) (h : HH) : Option (Int32 × HH) :=
  bnd (g_X10_isPerson a0 h) fun r2 h1 => 
  if r2 = 0 then
    (some ((-1 : Int32), h1))
  else
    (bnd (g_X10_isFloor a1 h1) fun r4 h3 => 
    if r4 = 0 then
      (some ((-1 : Int32), h3))
    else
      (if a1 = 0 then
        (some ((-1 : Int32), h3))
      else
        (bnd (g_X10_startTrial (2 : Int32) h3) fun r6 h5 => ckH r6 (.inl 7) (
        g_X10_climbs_L34 a0 a1 r6 1024 (0 : Int32) (0 : Int32) h5))))
def g_X10_level_L14 (c1 : Int32) : Nat → Int32 → Int32 → HH → Option (Int32 × HH)
  | 0, _, _, _ => none
  | n + 1, x2, x3, h =>
    gfR h 0 fun p3 => ckH p3 (.inl 5) (
    gfI h p3 0 fun v4 =>
    if x3 < v4 then
      (bnd (g_X10_cell c1 x3 h) fun r6 h5 => 
      ldI h5 57 36 r6 fun v7 =>
      vl ((x2 + (mxI (0 : Int32) v7))) fun v8 =>
      vl (x3 + (1 : Int32)) fun v9 =>
      g_X10_level_L14 c1 n v8 v9 h5)
    else
      (some (x2, h)))
def g_X10_level (a0 : Int32) (h : HH) : Option (Int32 × HH) :=
  bnd (g_X10_isPerson a0 h) fun r2 h1 => 
  if r2 = 0 then
    (some ((-1 : Int32), h1))
  else
    (g_X10_level_L14 a0 1024 (0 : Int32) (0 : Int32) h1)
def g_X10_ease_L24 (c1 : Int32) (c2 : Int32) : Nat → Int32 → HH → Option (Int32 × HH)
  | 0, _, _ => none
  | n + 1, x3, h =>
    if (200 : Int32) < x3 then
      (some ((-2 : Int32), h))
    else
      (bnd (g_X0_steepOf c1 c2 x3 h) fun r8 h7 => 
      gfR h7 0 fun p9 => ckH p9 (.inl 5) (
      ldI h7 (p9 + 3) 6 c1 fun v10 =>
      if v10 < r8 then
        (vl (x3 + (1 : Int32)) fun v11 =>
        g_X10_ease_L24 c1 c2 n v11 h7)
      else
        (some (x3, h7))))
def g_X10_ease (a0 : Int32) (a1 : Int32) (h : HH) : Option (Int32 × HH) :=
  bnd (g_X10_isPerson a0 h) fun r2 h1 => 
  if r2 = 0 then
    (some ((-1 : Int32), h1))
  else
    (bnd (g_X10_isFlight a1 h1) fun r4 h3 => 
    if r4 = 0 then
      (some ((-1 : Int32), h3))
    else
      (bnd (g_X10_lookAtNow h3) fun _ h5 => 
      g_X10_ease_L24 a0 a1 1024 (0 : Int32) h5))
def g_X10_way (a0 : Int32) (a1 : Int32) (a2 : Int32) (h : HH) : Option (Int32 × HH) :=
  bnd (g_X10_isPerson a0 h) fun r2 h1 => 
  if r2 = 0 then
    (some ((-1 : Int32), h1))
  else
    (bnd (g_X10_isFloor a1 h1) fun r4 h3 => 
    if r4 = 0 then
      (some ((-1 : Int32), h3))
    else
      (if a2 < 0 then
        (some ((-1 : Int32), h3))
      else
        (if (1 : Int32) < a2 then
          (some ((-1 : Int32), h3))
        else
          (bnd (g_X10_lookAtNow h3) fun _ h5 => 
          bnd (g_X9_seek 247 a0 h5) fun _ h7 => 
          ldI h7 248 7 a1 fun v9 =>
          if v9 = (2147483647 : Int32) then
            (some ((-2 : Int32), h7))
          else
            (if a2 = 0 then
              (ldI h7 248 7 a1 fun v10 =>
              some (v10, h7))
            else
              (ldI h7 249 7 a1 fun v11 =>
              some (v11, h7)))))))
def g_X10_meet_L59 (K154 : Int32 → Int32 → HH → Option (Int32 × HH)) (c3 : Int32) : Nat → Int32 → Int32 → Int32 → HH → Option (Int32 × HH)
  | 0, _, _, _, _ => none
  | n + 1, x4, x5, x6, h =>
    gfR h 0 fun p9 => ckH p9 (.inl 5) (
    gfI h p9 0 fun v10 =>
    if v10 < x6 then
      (K154 x4 x5 h)
    else
      (ldI h 248 7 x6 fun v11 =>
      jn (fun (u15 : Int32) (u16 : Int32) (h14 : HH) =>
        vl (x6 + (1 : Int32)) fun v17 =>
        g_X10_meet_L59 K154 c3 n u15 u16 v17 h14) fun j12 =>
      if v11 = (2147483647 : Int32) then
        (j12 x4 x5 h)
      else
        (ldI h 252 7 x6 fun v18 =>
        if v18 = (2147483647 : Int32) then
          (j12 x4 x5 h)
        else
          (ldI h 248 7 x6 fun v19 =>
          ldI h 252 7 x6 fun v20 =>
          vl ((v19 + v20)) fun v21 =>
          jn (fun  (h24 : HH) =>
            j12 x6 v21 h24) fun j22 =>
          if x4 = (-2 : Int32) then
            (j22 h)
          else
            (if v21 < x5 then
              (j22 h)
            else
              (j12 x4 x5 h))))))
def g_X10_meet (a0 : Int32) (a1 : Int32) (a2 : Int32) (h : HH) : Option (Int32 × HH) :=
  bnd (g_X10_isPair a0 a1 h) fun r2 h1 => 
  if r2 = 0 then
    (some ((-1 : Int32), h1))
  else
    (if a2 < 0 then
      (some ((-1 : Int32), h1))
    else
      (if (1 : Int32) < a2 then
        (some ((-1 : Int32), h1))
      else
        (bnd (g_X10_lookAtNow h1) fun _ h3 => 
        bnd (g_X9_seek 247 a0 h3) fun _ h5 => 
        bnd (g_X9_seek 251 a1 h5) fun _ h7 => 
        g_X10_meet_L59 (fun (z26 : Int32) (z27 : Int32) (h25 : HH) =>
          if a2 = 0 then
            (some (z26, h25))
          else
            (some (z27, h25))) a2 1024 (-2 : Int32) (-2 : Int32) (0 : Int32) h7)))
def g_X10_steepest_L22 (c1 : Int32) : Nat → Int32 → Int32 → Int32 → HH → Option (Int32 × HH)
  | 0, _, _, _, _ => none
  | n + 1, x2, x3, x4, h =>
    gfR h 0 fun p5 => ckH p5 (.inl 5) (
    gfI h p5 0 fun v6 =>
    if x4 < v6 then
      (bnd (g_X0_steepOf c1 x4 (0 : Int32) h) fun r8 h7 => 
      jn (fun (u12 : Int32) (u13 : Int32) (h11 : HH) =>
        vl (x4 + (1 : Int32)) fun v14 =>
        g_X10_steepest_L22 c1 n u12 u13 v14 h11) fun j9 =>
      jn (fun  (h17 : HH) =>
        j9 x4 r8 h17) fun j15 =>
      if x2 = (-2 : Int32) then
        (j15 h7)
      else
        (if x3 < r8 then
          (j15 h7)
        else
          (j9 x2 x3 h7)))
    else
      (some (x2, h)))
def g_X10_steepest (a0 : Int32) (h : HH) : Option (Int32 × HH) :=
  bnd (g_X10_isPerson a0 h) fun r2 h1 => 
  if r2 = 0 then
    (some ((-1 : Int32), h1))
  else
    (bnd (g_X10_lookAtNow h1) fun _ h3 => 
    g_X10_steepest_L22 a0 1024 (-2 : Int32) (0 : Int32) (0 : Int32) h3)
def g_X10_wall_L26 (K70 : Int32 → HH → Option (Int32 × HH)) (c1 : Int32) (c2 : Int32) : Nat → Int32 → Int32 → HH → Option (Int32 × HH)
  | 0, _, _, _ => none
  | n + 1, x3, x4, h =>
    gfR h 0 fun p6 => ckH p6 (.inl 5) (
    gfI h p6 2 fun v7 =>
    if x4 < v7 then
      (bnd (g_X0_steepOf x4 c2 (0 : Int32) h) fun r9 h8 => 
      gfR h8 0 fun p10 => ckH p10 (.inl 5) (
      ldI h8 (p10 + 3) 6 x4 fun v11 =>
      jn (fun (u15 : Int32) (h14 : HH) =>
        vl (x4 + (1 : Int32)) fun v16 =>
        g_X10_wall_L26 K70 c1 c2 n u15 v16 h14) fun j12 =>
      if v11 < r9 then
        (j12 x3 h8)
      else
        (j12 (0 : Int32) h8)))
    else
      (K70 x3 h))
def g_X10_wall_L8 : Nat → Int32 → Int32 → HH → Option (Int32 × HH)
  | 0, _, _, _ => none
  | n + 1, x1, x2, h =>
    gfR h 0 fun p3 => ckH p3 (.inl 5) (
    gfI h p3 0 fun v4 =>
    if x2 < v4 then
      (vl (((1 : Int32) <<< (x2 &&& 31))) fun v5 =>
      g_X10_wall_L26 (fun (z18 : Int32) (h17 : HH) =>
        vl ((x1 ||| z18)) fun v19 =>
        vl (x2 + (1 : Int32)) fun v20 =>
        g_X10_wall_L8  n v19 v20 h17) x1 x2 1024 v5 (0 : Int32) h)
    else
      (some (x1, h)))
def g_X10_wall (h : HH) : Option (Int32 × HH) :=
  bnd (g_X10_lookAtNow h) fun _ h1 => 
  g_X10_wall_L8  1024 (0 : Int32) (0 : Int32) h1
def g_J6_bitCount_0f7a4 (a0 : Int32) (h : HH) : Option (Int32 × HH) :=
  vl ((a0 - ((((a0).toUInt32 >>> (((1 : Int32)).toUInt32 &&& Int32.toUInt32 31)).toInt32) &&& (1431655765 : Int32)))) fun v1 =>
  vl (((v1 &&& (858993459 : Int32)) + ((((v1).toUInt32 >>> (((2 : Int32)).toUInt32 &&& Int32.toUInt32 31)).toInt32) &&& (858993459 : Int32)))) fun v2 =>
  vl (((v2 + (((v2).toUInt32 >>> (((4 : Int32)).toUInt32 &&& Int32.toUInt32 31)).toInt32)) &&& (252645135 : Int32))) fun v3 =>
  vl ((v3 + (((v3).toUInt32 >>> (((8 : Int32)).toUInt32 &&& Int32.toUInt32 31)).toInt32))) fun v4 =>
  vl ((v4 + (((v4).toUInt32 >>> (((16 : Int32)).toUInt32 &&& Int32.toUInt32 31)).toInt32))) fun v5 =>
  some ((v5 &&& (63 : Int32)), h)
def g_X10_gain (a0 : Int32) (a1 : Int32) (a2 : Int32) (h : HH) : Option (Int32 × HH) :=
  if a1 = 0 then
    (if a2 = 0 then
      (dvI a0 (2 : Int32) fun v1 =>
      some (v1, h))
    else
      (some (a0, h)))
  else
    (if a2 = 0 then
      (some ((2 : Int32), h))
    else
      (some ((1 : Int32), h)))
def g_X10_restBits_L54 (c4 : Int32) (c5 : Int32) : Nat → Int32 → Int32 → HH → Option (Int32 × HH)
  | 0, _, _, _ => none
  | n + 1, x6, x7, h =>
    if x7 < (4 : Int32) then
      (dvI x7 (2 : Int32) fun v13 =>
      rmI x7 (2 : Int32) fun v14 =>
      bnd (g_X10_gain c4 ((1 : Int32) - v13) v14 h) fun r16 h15 => 
      bnd (g_X10_gain c4 v13 v14 h15) fun r18 h17 => 
      jn (fun (y22 : Int32) (h21 : HH) =>
        bnd (g_X10_gain c5 ((1 : Int32) - v14) v13 h21) fun r24 h23 => 
        bnd (g_X10_gain c5 v14 v13 h23) fun r26 h25 => 
        jn (fun (y30 : Int32) (h29 : HH) =>
          jn (fun (u34 : Int32) (h33 : HH) =>
            vl (x7 + (1 : Int32)) fun v35 =>
            g_X10_restBits_L54 c4 c5 n u34 v35 h33) fun j31 =>
          if y22 = 0 then
            (j31 x6 h29)
          else
            (if y30 = 0 then
              (j31 x6 h29)
            else
              (vl ((x6 ||| ((1 : Int32) <<< (x7 &&& 31)))) fun v36 =>
              j31 v36 h29))) fun j27 =>
        if r26 < r24 then
          (j27 (0 : Int32) h25)
        else
          (j27 (1 : Int32) h25)) fun j19 =>
      if r18 < r16 then
        (j19 (0 : Int32) h17)
      else
        (j19 (1 : Int32) h17))
    else
      (some (x6, h))
def g_X10_restBits (a0 : Int32) (a1 : Int32) (a2 : Int32) (h : HH) : Option (Int32 × HH) :=
  bnd (g_X10_lookAtNow h) fun _ h1 => 
  gfR h1 0 fun p3 => ckH p3 (.inl 5) (
  ldI h1 (p3 + 3) 6 a0 fun v4 =>
  bnd (g_X0_steepOf a0 a2 (0 : Int32) h1) fun r6 h5 => 
  vl ((v4 - r6)) fun v7 =>
  gfR h5 0 fun p8 => ckH p8 (.inl 5) (
  ldI h5 (p8 + 3) 6 a1 fun v9 =>
  bnd (g_X0_steepOf a1 a2 (0 : Int32) h5) fun r11 h10 => 
  vl ((v9 - r11)) fun v12 =>
  g_X10_restBits_L54 v7 v12 1024 (0 : Int32) (0 : Int32) h10))
def g_X10_rests (a0 : Int32) (a1 : Int32) (a2 : Int32) (h : HH) : Option (Int32 × HH) :=
  bnd (g_X10_isPair a0 a1 h) fun r2 h1 => 
  if r2 = 0 then
    (some ((-1 : Int32), h1))
  else
    (bnd (g_X10_isFlight a2 h1) fun r4 h3 => 
    if r4 = 0 then
      (some ((-1 : Int32), h3))
    else
      (bnd (g_X10_restBits a0 a1 a2 h3) fun r6 h5 => 
      bnd (g_J6_bitCount_0f7a4 r6 h5) fun r8 h7 => 
      some (r8, h7)))
def g_X10_rest_L40 (K61 : Int32 → HH → Option (Int32 × HH)) (c5 : Int32) : Nat → Int32 → Int32 → HH → Option (Int32 × HH)
  | 0, _, _, _ => none
  | n + 1, x6, x7, h =>
    if x7 < (4 : Int32) then
      (jn (fun (u10 : Int32) (h9 : HH) =>
        vl (x7 + (1 : Int32)) fun v11 =>
        g_X10_rest_L40 K61 c5 n u10 v11 h9) fun j7 =>
      if ((c5 >>> (x7 &&& 31)) &&& (1 : Int32)) = 0 then
        (j7 x6 h)
      else
        (if x6 = 0 then
          (K61 x7 h)
        else
          (vl (x6 + (-1 : Int32)) fun v12 =>
          j7 v12 h)))
    else
      (some ((-2 : Int32), h))
def g_X10_rest (a0 : Int32) (a1 : Int32) (a2 : Int32) (a3 : Int32) (h : HH) : Option (Int32 × HH) :=
  bnd (g_X10_isPair a0 a1 h) fun r2 h1 => 
  if r2 = 0 then
    (some ((-1 : Int32), h1))
  else
    (bnd (g_X10_isFlight a2 h1) fun r4 h3 => 
    if r4 = 0 then
      (some ((-1 : Int32), h3))
    else
      (if a3 < 0 then
        (some ((-1 : Int32), h3))
      else
        (bnd (g_X10_restBits a0 a1 a2 h3) fun r6 h5 => 
        g_X10_rest_L40 (fun (z14 : Int32) (h13 : HH) =>
          dvI z14 (2 : Int32) fun v15 =>
          rmI z14 (2 : Int32) fun v16 =>
          some (((v15 * (10 : Int32)) + v16), h13)) r6 1024 a3 (0 : Int32) h5)))
def g_X10_commonPart_L2 (c0 : Int32) (c1 : Int32) : Nat → Int32 → HH → Option (Int32 × HH)
  | 0, _, _ => none
  | n + 1, x2, h =>
    if (1 : Int32) < x2 then
      (rmI c0 x2 fun v1 =>
      jn (fun  (h4 : HH) =>
        vl (x2 + (-1 : Int32)) fun v5 =>
        g_X10_commonPart_L2 c0 c1 n v5 h4) fun j2 =>
      if v1 = 0 then
        (rmI c1 x2 fun v6 =>
        if v6 = 0 then
          (some (x2, h))
        else
          (j2 h))
      else
        (j2 h))
    else
      (some ((1 : Int32), h))
def g_X10_commonPart (a0 : Int32) (a1 : Int32) (h : HH) : Option (Int32 × HH) :=
  g_X10_commonPart_L2 a0 a1 1024 a1 h
def g_X10_sure_L69 (c1 : Int32) (c4 : Int64) : Nat → Int64 → Int32 → HH → Option (Int64 × HH)
  | 0, _, _, _ => none
  | n + 1, x6, x8, h =>
    if x8 < c1 then
      (vl ((x6 * c4)) fun v11 =>
      vl (x8 + (1 : Int32)) fun v12 =>
      g_X10_sure_L69 c1 c4 n v11 v12 h)
    else
      (some (x6, h))
def g_X10_sure (a0 : Int32) (a1 : Int32) (h : HH) : Option (Int64 × HH) :=
  if a0 < 0 then
    (some ((-1 : Int64), h))
  else
    (if (6 : Int32) < a0 then
      (some ((-1 : Int64), h))
    else
      (if a1 < 0 then
        (some ((-1 : Int64), h))
      else
        (if (1 : Int32) < a1 then
          (some ((-1 : Int64), h))
        else
          (gfR h 0 fun p1 => ckH p1 (.inl 5) (
          gfI h p1 15 fun v2 =>
          bnd (g_X10_commonPart ((100 : Int32) - v2) (100 : Int32) h) fun r4 h3 => 
          jn (fun (y8 : Int32) (h7 : HH) =>
            dvI y8 r4 fun v9 =>
            vl ((Int32.toInt64 v9)) fun v10 =>
            g_X10_sure_L69 a0 v10 1024 (1 : Int64) (0 : Int32) h7) fun j5 =>
          if a1 = 0 then
            (gfR h3 0 fun p13 => ckH p13 (.inl 5) (
            gfI h3 p13 15 fun v14 =>
            j5 ((100 : Int32) - v14) h3))
          else
            (j5 (100 : Int32) h3))))))
def g_X10_note (a0 : Int32) (a1 : Int32) (a2 : Int32) (a3 : Int32) (h : HH) : Option (Int32 × HH) :=
  if a0 < (1 : Int32) then
    (some ((-1 : Int32), h))
  else
    (if (40 : Int32) < a0 then
      (some ((-1 : Int32), h))
    else
      (bnd (g_X10_isPerson a1 h) fun r2 h1 => 
      if r2 = 0 then
        (some ((-1 : Int32), h1))
      else
        (bnd (g_X10_isFloor a2 h1) fun r4 h3 => 
        if r4 = 0 then
          (some ((-1 : Int32), h3))
        else
          (bnd (g_X3_add a0 a1 a2 a3 h3) fun r6 h5 => 
          some (r6, h5)))))
def g_X10_strike (a0 : Int32) (h : HH) : Option (Int32 × HH) :=
  bnd (g_X3_addStrike a0 h) fun r2 h1 => 
  some (r2, h1)
def g_X10_known (a0 : Int32) (h : HH) : Option (Int32 × HH) :=
  if a0 < (-1 : Int32) then
    (some ((0 : Int32), h))
  else
    (gfI h 186 6 fun v1 =>
    if v1 < a0 then
      (some ((0 : Int32), h))
    else
      (pfI h 186 7 a0 fun h2 =>
      some ((1 : Int32), h2)))
def g_X10_startGuess (h : HH) : Option (Unit × HH) :=
  bnd (g_X3_weigh h) fun _ h1 => 
  gfR h1 0 fun p3 => ckH p3 (.inl 5) (
  bnd (g_X0_begin p3 196 (1 : Int32) h1) fun _ h4 => 
  some ((), h4))
def g_X10_hads (a0 : Int32) (a1 : Int32) (h : HH) : Option (Int32 × HH) :=
  bnd (g_X10_isPerson a0 h) fun r2 h1 => 
  if r2 = 0 then
    (some ((-1 : Int32), h1))
  else
    (bnd (g_X10_isFlight a1 h1) fun r4 h3 => 
    if r4 = 0 then
      (some ((-1 : Int32), h3))
    else
      (bnd (g_X10_startGuess h3) fun _ h5 => 
      bnd (g_X1_possible a0 a1 h5) fun r8 h7 => 
      some (r8, h7)))
def g_X10_ask_L68 (K109 : Int32 → Int32 → HH → Option (Int32 × HH)) (c3 : Int32) (c4 : Int32) : Nat → Int32 → Int32 → Int32 → HH → Option (Int32 × HH)
  | 0, _, _, _, _ => none
  | n + 1, x5, x6, x7, h =>
    if (40 : Int32) < x7 then
      (K109 x5 x6 h)
    else
      (bnd (g_X1_worst c4 x7 h) fun r12 h11 => 
      jn (fun (u16 : Int32) (u17 : Int32) (h15 : HH) =>
        vl (x7 + (1 : Int32)) fun v18 =>
        g_X10_ask_L68 K109 c3 c4 n u16 u17 v18 h15) fun j13 =>
      if r12 < x6 then
        (j13 x7 r12 h11)
      else
        (j13 x5 x6 h11))
def g_X10_ask (a0 : Int32) (a1 : Int32) (a2 : Int32) (h : HH) : Option (Int32 × HH) :=
  bnd (g_X10_isPerson a0 h) fun r2 h1 => 
  if r2 = 0 then
    (some ((-1 : Int32), h1))
  else
    (bnd (g_X10_isFlight a1 h1) fun r4 h3 => 
    if r4 = 0 then
      (some ((-1 : Int32), h3))
    else
      (if a2 < 0 then
        (some ((-1 : Int32), h3))
      else
        (if (1 : Int32) < a2 then
          (some ((-1 : Int32), h3))
        else
          (bnd (g_X10_startGuess h3) fun _ h5 => 
          bnd (g_X1_possible a0 a1 h5) fun r8 h7 => 
          bnd (g_X1_worst r8 (1 : Int32) h7) fun r10 h9 => 
          g_X10_ask_L68 (fun (z20 : Int32) (z21 : Int32) (h19 : HH) =>
            if a2 = 0 then
              (some (z20, h19))
            else
              (some (z21, h19))) a2 r8 1024 (1 : Int32) r10 (2 : Int32) h9))))
def g_X10_chance_L43 (c2 : Int32) (c3 : Int32) (c4 : Int32) : Nat → Int32 → Int32 → Int32 → HH → Option (Int32 × HH)
  | 0, _, _, _, _ => none
  | n + 1, x5, x6, x7, h =>
    if x7 < (10 : Int32) then
      (bnd (g_X10_startTrial (0 : Int32) h) fun r6 h5 => ckH r6 (.inl 7) (
      pfI h5 r6 6 x5 fun h7 =>
      bnd (g_X0_pass c2 h7) fun _ h8 => 
      gfI h8 r6 6 fun v10 =>
      ldI h8 (r6 + 1) 6 c3 fun v11 =>
      jn (fun (u15 : Int32) (h14 : HH) =>
        vl (x7 + (1 : Int32)) fun v16 =>
        g_X10_chance_L43 c2 c3 c4 n v10 u15 v16 h14) fun j12 =>
      if v11 = c4 then
        (vl (x6 + (1 : Int32)) fun v17 =>
        j12 v17 h8)
      else
        (j12 x6 h8)))
    else
      (some (x6, h))
def g_X10_chance (a0 : Int32) (a1 : Int32) (a2 : Int32) (a3 : Int32) (h : HH) : Option (Int32 × HH) :=
  if a0 < 0 then
    (some ((-1 : Int32), h))
  else
    (if a1 < (1 : Int32) then
      (some ((-1 : Int32), h))
    else
      (if (99 : Int32) < a1 then
        (some ((-1 : Int32), h))
      else
        (bnd (g_X10_isPerson a2 h) fun r2 h1 => 
        if r2 = 0 then
          (some ((-1 : Int32), h1))
        else
          (bnd (g_X10_isFloor a3 h1) fun r4 h3 => 
          if r4 = 0 then
            (some ((-1 : Int32), h3))
          else
            (g_X10_chance_L43 a1 a2 a3 1024 a0 (0 : Int32) (0 : Int32) h3)))))
def g_X10_tried (a0 : Int32) (a1 : Int32) (a2 : Int32) (h : HH) : Option (Int32 × HH) :=
  jn (fun (y4 : Int32) (h3 : HH) =>
    if a0 < 0 then
      (some ((-1 : Int32), h3))
    else
      (if (4 : Int32) < a0 then
        (some ((-1 : Int32), h3))
      else
        (if y4 = 0 then
          (some ((-1 : Int32), h3))
        else
          (if a2 < 0 then
            (some ((-1 : Int32), h3))
          else
            (if (200 : Int32) < a2 then
              (some ((-1 : Int32), h3))
            else
              (jn (fun (y8 : Int32) (h7 : HH) =>
                bnd (g_X10_startTrial y8 h7) fun r10 h9 => ckH r10 (.inl 7) (
                jn (fun  (h13 : HH) =>
                  jn (fun (y17 : Int32) (h16 : HH) =>
                    pfI h16 193 7 y17 fun h18 =>
                    jn (fun (y22 : Int32) (h21 : HH) =>
                      ckZ y22 (pfI h21 193 8 y22 fun h23 =>
                      jn (fun (y27 : Nat) (h26 : HH) =>
                        ckH y27 (.inr (0, 6, 0)) (
                        pfR h26 4 y27 fun h28 =>
                        bnd (g_X0_pass a2 h28) fun _ h29 => 
                        bnd (g_X7_sumOf (r10 + 1) h29) fun r32 h31 => 
                        some (r32, h31))) fun j24 =>
                      if a0 = (4 : Int32) then
                        (j24 224 h23)
                      else
                        (gfR h23 0 fun p33 => ckH p33 (.inl 5) (
                        j24 (p33 + 3) h23)))) fun j19 =>
                    if a0 = (3 : Int32) then
                      (j19 (1 : Int32) h18)
                    else
                      (j19 (0 : Int32) h18)) fun j14 =>
                  if a0 = (2 : Int32) then
                    (j14 a1 h13)
                  else
                    (j14 (-1 : Int32) h13)) fun j11 =>
                if a0 = (1 : Int32) then
                  (bnd (g_J7_fill_53178 (r10 + 5) (0 : Int32) h9) fun _ h35 => 
                  j11 h35)
                else
                  (j11 h9))) fun j5 =>
              if a0 = 0 then
                (j5 (2 : Int32) h3)
              else
                (j5 (1 : Int32) h3))))))) fun j1 =>
  if a0 = (2 : Int32) then
    (bnd (g_X10_isPerson a1 h) fun r38 h37 => 
    j1 r38 h37)
  else
    (if a1 = 0 then
      (j1 (1 : Int32) h)
    else
      (j1 (0 : Int32) h))
def g_X11_thrown (h : HH) : Option (Int32 × HH) :=
  gfI h 255 0 fun v1 =>
  some (v1, h)
def g_X11_feed_L20 (K110 : HH → Option (Int32 × HH)) (c1 : Int32) (c2 : Int32) (c3 : Int32) (c4 : Int32) (c5 : Int32) : Nat → Int32 → HH → Option (Int32 × HH)
  | 0, _, _ => none
  | n + 1, x6, h =>
    if x6 < (20 : Int32) then
      (jn (fun (y6 : Int32) (h5 : HH) =>
        gfI h5 255 2 fun v7 =>
        rmI x6 (4 : Int32) fun v8 =>
        stI h5 256 700 (v7 + x6) ((y6 >>> (((24 : Int32) - ((8 : Int32) * v8)) &&& 31)) &&& (255 : Int32)) fun h9 =>
        vl (x6 + (1 : Int32)) fun v10 =>
        g_X11_feed_L20 K110 c1 c2 c3 c4 c5 n v10 h9) fun j3 =>
      if x6 < (4 : Int32) then
        (j3 c1 h)
      else
        (if x6 < (8 : Int32) then
          (j3 c2 h)
        else
          (if x6 < (12 : Int32) then
            (j3 c3 h)
          else
            (if x6 < (16 : Int32) then
              (j3 c4 h)
            else
              (j3 c5 h)))))
    else
      (K110 h)
def g_X11_feed (a0 : Int32) (a1 : Int32) (a2 : Int32) (a3 : Int32) (a4 : Int32) (h : HH) : Option (Int32 × HH) :=
  pfI h 255 0 (0 : Int32) fun h1 =>
  gfI h1 255 2 fun v2 =>
  if (680 : Int32) < v2 then
    (some ((-1 : Int32), h1))
  else
    (g_X11_feed_L20 (fun  (h11 : HH) =>
      gfI h11 255 2 fun v12 =>
      pfI h11 255 2 (v12 + (20 : Int32)) fun h13 =>
      gfI h13 255 2 fun v14 =>
      some (v14, h13)) a0 a1 a2 a3 a4 1024 (0 : Int32) h1)
def g_X11_here (h : HH) : Option (Int32 × HH) :=
  gfI h 255 23 fun v1 =>
  gfI h 255 22 fun v2 =>
  if v1 < v2 then
    (gfI h 255 23 fun v3 =>
    ldI h 256 700 v3 fun v4 =>
    some (v4, h))
  else
    (some ((-1 : Int32), h))
def g_X11_isSmall (a0 : Int32) (h : HH) : Option (Int32 × HH) :=
  if a0 < (97 : Int32) then
    (some ((0 : Int32), h))
  else
    (if (122 : Int32) < a0 then
      (some ((0 : Int32), h))
    else
      (some ((1 : Int32), h)))
def g_X11_isDigit (a0 : Int32) (h : HH) : Option (Int32 × HH) :=
  if a0 < (48 : Int32) then
    (some ((0 : Int32), h))
  else
    (if (57 : Int32) < a0 then
      (some ((0 : Int32), h))
    else
      (some ((1 : Int32), h)))
def g_X11_name_L7 : Nat → Int32 → HH → Option (Unit × HH)
  | 0, _, _ => none
  | n + 1, x1, h =>
    if x1 < (6 : Int32) then
      (gfI h 255 26 fun v2 =>
      gfI h 255 24 fun v3 =>
      gfI h 255 23 fun v4 =>
      jn (fun (y8 : Int32) (h7 : HH) =>
        pfI h7 255 26 ((v2 <<< ((5 : Int32) &&& 31)) ||| y8) fun h9 =>
        vl (x1 + (1 : Int32)) fun v10 =>
        g_X11_name_L7  n v10 h9) fun j5 =>
      if (v3 + x1) < v4 then
        (gfI h 255 24 fun v11 =>
        ldI h 256 700 (v11 + x1) fun v12 =>
        j5 ((v12 - (97 : Int32)) + (1 : Int32)) h)
      else
        (j5 (0 : Int32) h))
    else
      (some ((), h))
def g_X11_name (h : HH) : Option (Unit × HH) :=
  pfI h 255 26 (0 : Int32) fun h1 =>
  g_X11_name_L7  1024 (0 : Int32) h1
def g_X11_sign (a0 : Int32) (h : HH) : Option (Unit × HH) :=
  gfI h 255 23 fun v1 =>
  pfI h 255 23 (v1 + (1 : Int32)) fun h2 =>
  jn (fun (y6 : Int32) (h5 : HH) =>
    pfI h5 255 25 y6 fun h7 =>
    pfI h7 255 26 a0 fun h8 =>
    jn (fun  (h11 : HH) =>
      jn (fun  (h14 : HH) =>
        jn (fun  (h17 : HH) =>
          gfI h17 255 26 fun v18 =>
          if v18 < (256 : Int32) then
            (some ((), h17))
          else
            (gfI h17 255 23 fun v19 =>
            pfI h17 255 23 (v19 + (1 : Int32)) fun h20 =>
            some ((), h20))) fun j15 =>
        if a0 = (62 : Int32) then
          (bnd (g_X11_here h14) fun r22 h21 => 
          if r22 = (61 : Int32) then
            (pfI h21 255 26 (258 : Int32) fun h23 =>
            j15 h23)
          else
            (j15 h21))
        else
          (j15 h14)) fun j12 =>
      if a0 = (60 : Int32) then
        (bnd (g_X11_here h11) fun r25 h24 => 
        if r25 = (62 : Int32) then
          (pfI h24 255 26 (257 : Int32) fun h26 =>
          j12 h26)
        else
          (j12 h24))
      else
        (j12 h11)) fun j9 =>
    if a0 = (60 : Int32) then
      (bnd (g_X11_here h8) fun r28 h27 => 
      if r28 = (61 : Int32) then
        (pfI h27 255 26 (256 : Int32) fun h29 =>
        j9 h29)
      else
        (j9 h27))
    else
      (j9 h8)) fun j3 =>
  jn (fun  (h32 : HH) =>
    j3 (3 : Int32) h32) fun j30 =>
  if a0 = (59 : Int32) then
    (j30 h2)
  else
    (if a0 = (40 : Int32) then
      (j30 h2)
    else
      (if a0 = (41 : Int32) then
        (j30 h2)
      else
        (if a0 = (43 : Int32) then
          (j30 h2)
        else
          (if a0 = (45 : Int32) then
            (j30 h2)
          else
            (if a0 = (42 : Int32) then
              (j30 h2)
            else
              (if a0 = (47 : Int32) then
                (j30 h2)
              else
                (if a0 = (60 : Int32) then
                  (j30 h2)
                else
                  (if a0 = (61 : Int32) then
                    (j30 h2)
                  else
                    (if a0 = (62 : Int32) then
                      (j30 h2)
                    else
                      (j3 (5 : Int32) h2))))))))))
def g_X11_word_L15 (K69 : Int32 → HH → Option (Int32 × HH)) (c1 : Int32) (c2 : Int32) : Nat → Int32 → HH → Option (Int32 × HH)
  | 0, _, _ => none
  | n + 1, x3, h =>
    chS 3 (c2 + x3) fun v1 =>
    if v1 = (32 : Int32) then
      (K69 x3 h)
    else
      (gfI h 255 24 fun v2 =>
      gfI h 255 23 fun v3 =>
      if (v2 + x3) < v3 then
        (gfI h 255 24 fun v4 =>
        ldI h 256 700 (v4 + x3) fun v5 =>
        chS 3 (c2 + x3) fun v6 =>
        if v5 = v6 then
          (vl (x3 + (1 : Int32)) fun v7 =>
          g_X11_word_L15 K69 c1 c2 n v7 h)
        else
          (K69 x3 h))
      else
        (K69 x3 h))
def g_X11_word_L97 (K114 : Int32 → HH → Option (Int32 × HH)) (c1 : Int32) : Nat → Int32 → HH → Option (Int32 × HH)
  | 0, _, _ => none
  | n + 1, x2, h =>
    chS 3 x2 fun v14 =>
    if v14 = (32 : Int32) then
      (K114 x2 h)
    else
      (vl (x2 + (1 : Int32)) fun v15 =>
      g_X11_word_L97 K114 c1 n v15 h)
def g_X11_word_L4 : Nat → Int32 → Int32 → HH → Option (Int32 × HH)
  | 0, _, _, _ => none
  | n + 1, x1, x2, h =>
    if x2 < (123 : Int32) then
      (g_X11_word_L15 (fun (z9 : Int32) (h8 : HH) =>
        chS 3 (x2 + z9) fun v10 =>
        jn (fun  (h13 : HH) =>
          g_X11_word_L97 (fun (z17 : Int32) (h16 : HH) =>
            vl (z17 + (1 : Int32)) fun v18 =>
            vl (x1 + (1 : Int32)) fun v19 =>
            g_X11_word_L4  n v19 v18 h16) x1 1024 x2 h13) fun j11 =>
        if v10 = (32 : Int32) then
          (gfI h8 255 24 fun v20 =>
          gfI h8 255 23 fun v21 =>
          if (v20 + z9) = v21 then
            (some (x1, h8))
          else
            (j11 h8))
        else
          (j11 h8)) x1 x2 1024 (0 : Int32) h)
    else
      (some ((-1 : Int32), h))
def g_X11_word (h : HH) : Option (Int32 × HH) :=
  g_X11_word_L4  1024 (0 : Int32) (0 : Int32) h
def g_X11_token_L0 (K31 : HH → Option (Unit × HH)) : Nat → HH → Option (Unit × HH)
  | 0, _ => none
  | n + 1, h =>
    bnd (g_X11_here h) fun r2 h1 => 
    jn (fun  (h5 : HH) =>
      gfI h5 255 23 fun v6 =>
      pfI h5 255 23 (v6 + (1 : Int32)) fun h7 =>
      g_X11_token_L0 K31 n h7) fun j3 =>
    if r2 = (10 : Int32) then
      (j3 h1)
    else
      (bnd (g_X11_here h1) fun r9 h8 => 
      if r9 = (32 : Int32) then
        (j3 h8)
      else
        (K31 h8))
def g_X11_token_L162 : Nat → HH → Option (Unit × HH)
  | 0, _ => none
  | n + 1, h =>
    bnd (g_X11_here h) fun r25 h24 => 
    bnd (g_X11_isDigit r25 h24) fun r27 h26 => 
    if r27 = 0 then
      (some ((), h26))
    else
      (gfI h26 255 26 fun v28 =>
      jn (fun (y32 : Int32) (h31 : HH) =>
        pfI h31 255 26 y32 fun h33 =>
        gfI h33 255 23 fun v34 =>
        pfI h33 255 23 (v34 + (1 : Int32)) fun h35 =>
        g_X11_token_L162  n h35) fun j29 =>
      if (99999 : Int32) < v28 then
        (gfI h26 255 26 fun v36 =>
        j29 v36 h26)
      else
        (gfI h26 255 26 fun v37 =>
        bnd (g_X11_here h26) fun r39 h38 => 
        j29 ((((10 : Int32) * v37) + r39) - (48 : Int32)) h38))
def g_X11_token_L64 (K87 : HH → Option (Unit × HH)) : Nat → HH → Option (Unit × HH)
  | 0, _ => none
  | n + 1, h =>
    bnd (g_X11_here h) fun r41 h40 => 
    bnd (g_X11_isSmall r41 h40) fun r43 h42 => 
    if r43 = 0 then
      (K87 h42)
    else
      (gfI h42 255 23 fun v44 =>
      pfI h42 255 23 (v44 + (1 : Int32)) fun h45 =>
      g_X11_token_L64 K87 n h45)
def g_X11_token (h : HH) : Option (Unit × HH) :=
  g_X11_token_L0 (fun  (h10 : HH) =>
    gfI h10 255 23 fun v11 =>
    pfI h10 255 24 v11 fun h12 =>
    bnd (g_X11_here h12) fun r14 h13 => 
    if r14 = (-1 : Int32) then
      (pfI h13 255 25 (4 : Int32) fun h15 =>
      some ((), h15))
    else
      (bnd (g_X11_isSmall r14 h13) fun r17 h16 => 
      if r17 = 0 then
        (bnd (g_X11_isDigit r14 h16) fun r19 h18 => 
        if r19 = 0 then
          (bnd (g_X11_sign r14 h18) fun _ h20 => 
          some ((), h20))
        else
          (pfI h18 255 25 (2 : Int32) fun h22 =>
          pfI h22 255 26 (0 : Int32) fun h23 =>
          g_X11_token_L162  1024 h23))
      else
        (g_X11_token_L64 (fun  (h46 : HH) =>
          bnd (g_X11_word h46) fun r48 h47 => 
          pfI h47 255 26 r48 fun h49 =>
          gfI h49 255 26 fun v50 =>
          jn (fun (y54 : Int32) (h53 : HH) =>
            pfI h53 255 25 y54 fun h55 =>
            gfI h55 255 25 fun v56 =>
            if v56 = (1 : Int32) then
              (bnd (g_X11_name h55) fun _ h57 => 
              some ((), h57))
            else
              (some ((), h55))) fun j51 =>
          if v50 = (-1 : Int32) then
            (gfI h49 255 23 fun v59 =>
            gfI h49 255 24 fun v60 =>
            if (6 : Int32) < (v59 - v60) then
              (j51 (5 : Int32) h49)
            else
              (j51 (1 : Int32) h49))
          else
            (j51 (0 : Int32) h49)) 1024 h16))) 1024 h
def g_X11_wrong (a0 : Int32) (h : HH) : Option (Unit × HH) :=
  gfI h 255 27 fun v1 =>
  if v1 = 0 then
    (pfI h 255 27 a0 fun h2 =>
    gfI h2 255 24 fun v3 =>
    pfI h2 255 28 v3 fun h4 =>
    some ((), h4))
  else
    (some ((), h))
def g_X11_isWord (a0 : Int32) (h : HH) : Option (Int32 × HH) :=
  gfI h 255 27 fun v1 =>
  if v1 = 0 then
    (gfI h 255 25 fun v2 =>
    if v2 = 0 then
      (gfI h 255 26 fun v3 =>
      if v3 = a0 then
        (some ((1 : Int32), h))
      else
        (some ((0 : Int32), h)))
    else
      (some ((0 : Int32), h)))
  else
    (some ((0 : Int32), h))
def g_X11_isSign (a0 : Int32) (h : HH) : Option (Int32 × HH) :=
  gfI h 255 27 fun v1 =>
  if v1 = 0 then
    (gfI h 255 25 fun v2 =>
    if v2 = (3 : Int32) then
      (gfI h 255 26 fun v3 =>
      if v3 = a0 then
        (some ((1 : Int32), h))
      else
        (some ((0 : Int32), h)))
    else
      (some ((0 : Int32), h)))
  else
    (some ((0 : Int32), h))
def g_X11_goOn (h : HH) : Option (Unit × HH) :=
  gfI h 255 27 fun v1 =>
  if v1 = 0 then
    (bnd (g_X11_token h) fun _ h2 => 
    some ((), h2))
  else
    (some ((), h))
def g_X11_numeral (a0 : Int32) (a1 : Int32) (h : HH) : Option (Int32 × HH) :=
  gfI h 255 27 fun v1 =>
  if v1 = 0 then
    (gfI h 255 25 fun v2 =>
    jn (fun  (h5 : HH) =>
      gfI h5 255 27 fun v6 =>
      if v6 = 0 then
        (gfI h5 255 26 fun v7 =>
        bnd (g_X11_token h5) fun _ h8 => 
        some (v7, h8))
      else
        (some (a0, h5))) fun j3 =>
    if v2 = (2 : Int32) then
      (gfI h 255 26 fun v10 =>
      jn (fun  (h13 : HH) =>
        bnd (g_X11_wrong (2 : Int32) h13) fun _ h14 => 
        j3 h14) fun j11 =>
      if v10 < a0 then
        (j11 h)
      else
        (gfI h 255 26 fun v16 =>
        if a1 < v16 then
          (j11 h)
        else
          (j3 h)))
    else
      (bnd (g_X11_wrong (1 : Int32) h) fun _ h17 => 
      j3 h17))
  else
    (some (a0, h))
def g_X11_found_L3 (c1 : Int32) (c2 : Int32) (c3 : Int32) : Nat → Int32 → HH → Option (Int32 × HH)
  | 0, _, _ => none
  | n + 1, x4, h =>
    if x4 < c2 then
      (ldI h 259 12 (c1 + x4) fun v1 =>
      if v1 = c3 then
        (some (x4, h))
      else
        (vl (x4 + (1 : Int32)) fun v2 =>
        g_X11_found_L3 c1 c2 c3 n v2 h))
    else
      (some ((-1 : Int32), h))
def g_X11_found (a1 : Int32) (a2 : Int32) (a3 : Int32) (h : HH) : Option (Int32 × HH) :=
  g_X11_found_L3 a1 a2 a3 1024 (0 : Int32) h
def g_X11_fresh (a1 : Int32) (a2 : Int32) (h : HH) : Option (Int32 × HH) :=
  gfI h 255 27 fun v1 =>
  if v1 = 0 then
    (gfI h 255 25 fun v2 =>
    jn (fun  (h5 : HH) =>
      gfI h5 255 27 fun v6 =>
      if v6 = 0 then
        (gfI h5 255 26 fun v7 =>
        bnd (g_X11_token h5) fun _ h8 => 
        some (v7, h8))
      else
        (some ((0 : Int32), h5))) fun j3 =>
    if v2 = (1 : Int32) then
      (gfI h 255 26 fun v10 =>
      bnd (g_X11_found a1 a2 v10 h) fun r12 h11 => 
      if r12 = (-1 : Int32) then
        (j3 h11)
      else
        (bnd (g_X11_wrong (3 : Int32) h11) fun _ h13 => 
        j3 h13))
    else
      (bnd (g_X11_wrong (1 : Int32) h) fun _ h15 => 
      j3 h15))
  else
    (some ((0 : Int32), h))
def g_X11_fresher (a0 : Int32) (h : HH) : Option (Int32 × HH) :=
  ldI h 257 14 ((7 : Int32) + a0) fun v1 =>
  some (v1, h)
def g_X11_reads (a0 : Int32) (a1 : Int32) (h : HH) : Option (Unit × HH) :=
  stI h 257 14 ((7 : Int32) + a0) a1 fun h1 =>
  some ((), h1)
def g_X11_personAhead (h : HH) : Option (Int32 × HH) :=
  gfI h 255 27 fun v1 =>
  if v1 = 0 then
    (gfI h 255 25 fun v2 =>
    jn (fun  (h5 : HH) =>
      gfI h5 255 27 fun v6 =>
      jn (fun (y10 : Int32) (h9 : HH) =>
        gfI h9 255 27 fun v11 =>
        jn (fun  (h14 : HH) =>
          bnd (g_X11_goOn h14) fun _ h15 => 
          gfI h15 255 27 fun v17 =>
          if v17 = 0 then
            (some (y10, h15))
          else
            (some ((0 : Int32), h15))) fun j12 =>
        if v11 = 0 then
          (if y10 = (-1 : Int32) then
            (bnd (g_X11_wrong (4 : Int32) h9) fun _ h18 => 
            j12 h18)
          else
            (j12 h9))
        else
          (j12 h9)) fun j7 =>
      if v6 = 0 then
        (bnd (g_X11_fresher (1 : Int32) h5) fun r21 h20 => 
        gfI h20 255 26 fun v22 =>
        bnd (g_X11_found (6 : Int32) r21 v22 h20) fun r24 h23 => 
        j7 r24 h23)
      else
        (j7 (0 : Int32) h5)) fun j3 =>
    if v2 = (1 : Int32) then
      (j3 h)
    else
      (bnd (g_X11_wrong (1 : Int32) h) fun _ h25 => 
      j3 h25))
  else
    (some ((0 : Int32), h))
def g_X11_isFull (a0 : Int32) (h : HH) : Option (Int32 × HH) :=
  if a0 = (0 : Int32) then
    (bnd (g_X11_fresher (0 : Int32) h) fun r3 h2 => 
    if r3 = (6 : Int32) then
      (some ((1 : Int32), h2))
    else
      (some ((0 : Int32), h2)))
  else
    (if a0 = (1 : Int32) then
      (bnd (g_X11_fresher (1 : Int32) h) fun r6 h5 => 
      if r6 = (6 : Int32) then
        (some ((1 : Int32), h5))
      else
        (some ((0 : Int32), h5)))
    else
      (if a0 = (4 : Int32) then
        (bnd (g_X11_fresher (2 : Int32) h) fun r9 h8 => 
        if r9 = (6 : Int32) then
          (some ((1 : Int32), h8))
        else
          (some ((0 : Int32), h8)))
      else
        (if a0 = (5 : Int32) ∨ a0 = (6 : Int32) ∨ a0 = (7 : Int32) then
          (bnd (g_X11_fresher (3 : Int32) h) fun r12 h11 => 
          if r12 = (20 : Int32) then
            (some ((1 : Int32), h11))
          else
            (some ((0 : Int32), h11)))
        else
          (some ((0 : Int32), h)))))
def g_X11_goingLine (a0 : Int32) (h : HH) : Option (Unit × HH) :=
  bnd (g_X11_fresher (3 : Int32) h) fun r2 h1 => 
  vl (((20 : Int32) + r2)) fun v3 =>
  stI h1 266 40 v3 a0 fun h4 =>
  bnd (g_X11_personAhead h4) fun r6 h5 => 
  stI h5 267 40 v3 r6 fun h7 =>
  bnd (g_X11_numeral (0 : Int32) (99 : Int32) h7) fun r9 h8 => 
  stI h8 268 40 v3 r9 fun h10 =>
  stI h10 269 40 v3 (0 : Int32) fun h11 =>
  jn (fun  (h14 : HH) =>
    jn (fun  (h17 : HH) =>
      bnd (g_X11_fresher (3 : Int32) h17) fun r19 h18 => 
      bnd (g_X11_reads (3 : Int32) (r19 + (1 : Int32)) h18) fun _ h20 => 
      some ((), h20)) fun j15 =>
    if a0 < (2 : Int32) then
      (jn (fun (y25 : Int32) (h24 : HH) =>
        bnd (g_X11_numeral (0 : Int32) y25 h24) fun r27 h26 => 
        stI h26 269 40 v3 r27 fun h28 =>
        j15 h28) fun j22 =>
      if a0 = 0 then
        (bnd (g_X11_fresher (0 : Int32) h14) fun r30 h29 => 
        j22 r30 h29)
      else
        (j22 (5 : Int32) h14))
    else
      (j15 h14)) fun j12 =>
  if a0 = (1 : Int32) then
    (gfI h11 255 27 fun v31 =>
    if v31 = 0 then
      (gfI h11 255 25 fun v32 =>
      if v32 = (2 : Int32) then
        (gfI h11 255 26 fun v33 =>
        if v33 < (6 : Int32) then
          (gfI h11 255 26 fun v34 =>
          bnd (g_X11_fresher (2 : Int32) h11) fun r36 h35 => 
          if v34 < r36 then
            (j12 h35)
          else
            (bnd (g_X11_wrong (4 : Int32) h35) fun _ h37 => 
            j12 h37))
        else
          (j12 h11))
      else
        (j12 h11))
    else
      (j12 h11))
  else
    (j12 h11)
def g_X11_ladderLine (h : HH) : Option (Unit × HH) :=
  bnd (g_X11_fresher (2 : Int32) h) fun r2 h1 => 
  vl (((6 : Int32) + r2)) fun v3 =>
  bnd (g_X11_fresher (0 : Int32) h1) fun r5 h4 => 
  bnd (g_X11_numeral (0 : Int32) r5 h4) fun r7 h6 => 
  stI h6 263 12 v3 r7 fun h8 =>
  gfI h8 255 27 fun v9 =>
  jn (fun  (h12 : HH) =>
    bnd (g_X11_fresher (0 : Int32) h12) fun r14 h13 => 
    bnd (g_X11_numeral (0 : Int32) r14 h13) fun r16 h15 => 
    stI h15 264 12 v3 r16 fun h17 =>
    bnd (g_X11_numeral (0 : Int32) (99 : Int32) h17) fun r19 h18 => 
    stI h18 265 12 v3 r19 fun h20 =>
    bnd (g_X11_fresher (2 : Int32) h20) fun r22 h21 => 
    bnd (g_X11_reads (2 : Int32) (r22 + (1 : Int32)) h21) fun _ h23 => 
    some ((), h23)) fun j10 =>
  if v9 = 0 then
    (gfI h8 255 25 fun v25 =>
    if v25 = (2 : Int32) then
      (gfI h8 255 26 fun v26 =>
      ldI h8 263 12 v3 fun v27 =>
      if v26 = v27 then
        (bnd (g_X11_wrong (5 : Int32) h8) fun _ h28 => 
        j10 h28)
      else
        (j10 h8))
    else
      (j10 h8))
  else
    (j10 h8)
def g_X11_knot (h : HH) : Option (Unit × HH) :=
  gfI h 255 27 fun v1 =>
  if v1 = 0 then
    (gfI h 255 32 fun v2 =>
    if v2 = (64 : Int32) then
      (bnd (g_X11_wrong (2 : Int32) h) fun _ h3 => 
      some ((), h3))
    else
      (gfI h 255 32 fun v5 =>
      pfI h 255 32 (v5 + (1 : Int32)) fun h6 =>
      some ((), h6)))
  else
    (some ((), h))
def g_X11_puts (a0 : Int32) (a1 : Int32) (h : HH) : Option (Unit × HH) :=
  gfI h 255 27 fun v1 =>
  if v1 = 0 then
    (bnd (g_X11_fresher (6 : Int32) h) fun r3 h2 => 
    stI h2 272 128 ((64 : Int32) + r3) a0 fun h4 =>
    bnd (g_X11_fresher (6 : Int32) h4) fun r6 h5 => 
    stI h5 273 128 ((64 : Int32) + r6) a1 fun h7 =>
    bnd (g_X11_fresher (6 : Int32) h7) fun r9 h8 => 
    bnd (g_X11_reads (6 : Int32) (r9 + (1 : Int32)) h8) fun _ h10 => 
    some ((), h10))
  else
    (some ((), h))
def g_X11_expression_L4 (R : Nat → HH → Option (Unit × HH)) : Nat → HH → Option (Unit × HH)
  | 0, _ => none
  | n + 1, h =>
    bnd (g_X11_isWord (14 : Int32) h) fun r4 h3 => 
    if r4 = 0 then
      (some ((), h3))
    else
      (bnd (g_X11_knot h3) fun _ h5 => 
      bnd (g_X11_goOn h5) fun _ h7 => 
      bnd (R 1 h7) fun _ h9 => 
      bnd (g_X11_puts (2 : Int32) (262 : Int32) h9) fun _ h11 => 
      g_X11_expression_L4 R n h11)
def g_X11_expression (R : Nat → HH → Option (Unit × HH)) (h : HH) : Option (Unit × HH) :=
  bnd (R 1 h) fun _ h1 => 
  g_X11_expression_L4 R 1024 h1
def g_X11_conjunction_L4 (R : Nat → HH → Option (Unit × HH)) : Nat → HH → Option (Unit × HH)
  | 0, _ => none
  | n + 1, h =>
    bnd (g_X11_isWord (15 : Int32) h) fun r4 h3 => 
    if r4 = 0 then
      (some ((), h3))
    else
      (bnd (g_X11_knot h3) fun _ h5 => 
      bnd (g_X11_goOn h5) fun _ h7 => 
      bnd (R 2 h7) fun _ h9 => 
      bnd (g_X11_puts (2 : Int32) (261 : Int32) h9) fun _ h11 => 
      g_X11_conjunction_L4 R n h11)
def g_X11_conjunction (R : Nat → HH → Option (Unit × HH)) (h : HH) : Option (Unit × HH) :=
  bnd (R 2 h) fun _ h1 => 
  g_X11_conjunction_L4 R 1024 h1
def g_X11_negation (R : Nat → HH → Option (Unit × HH)) (h : HH) : Option (Unit × HH) :=
  bnd (g_X11_isWord (16 : Int32) h) fun r2 h1 => 
  if r2 = 0 then
    (bnd (R 3 h1) fun _ h3 => 
    gfI h3 255 27 fun v5 =>
    if v5 = 0 then
      (gfI h3 255 25 fun v6 =>
      if v6 = (3 : Int32) then
        (gfI h3 255 26 fun v7 =>
        jn (fun  (h10 : HH) =>
          gfI h10 255 26 fun v11 =>
          bnd (g_X11_knot h10) fun _ h12 => 
          bnd (g_X11_goOn h12) fun _ h14 => 
          bnd (R 3 h14) fun _ h16 => 
          bnd (g_X11_puts (2 : Int32) v11 h16) fun _ h18 => 
          some ((), h18)) fun j8 =>
        if v7 = (60 : Int32) then
          (j8 h3)
        else
          (gfI h3 255 26 fun v20 =>
          if v20 = (62 : Int32) then
            (j8 h3)
          else
            (gfI h3 255 26 fun v21 =>
            if v21 = (61 : Int32) then
              (j8 h3)
            else
              (gfI h3 255 26 fun v22 =>
              if v22 < (256 : Int32) then
                (some ((), h3))
              else
                (j8 h3)))))
      else
        (some ((), h3)))
    else
      (some ((), h3)))
  else
    (bnd (g_X11_knot h1) fun _ h23 => 
    bnd (g_X11_goOn h23) fun _ h25 => 
    bnd (R 2 h25) fun _ h27 => 
    bnd (g_X11_puts (2 : Int32) (260 : Int32) h27) fun _ h29 => 
    some ((), h29))
def g_X11_sum_L4 (R : Nat → HH → Option (Unit × HH)) : Nat → HH → Option (Unit × HH)
  | 0, _ => none
  | n + 1, h =>
    bnd (g_X11_isSign (43 : Int32) h) fun r4 h3 => 
    jn (fun  (h7 : HH) =>
      gfI h7 255 26 fun v8 =>
      bnd (g_X11_knot h7) fun _ h9 => 
      bnd (g_X11_goOn h9) fun _ h11 => 
      bnd (R 4 h11) fun _ h13 => 
      bnd (g_X11_puts (2 : Int32) v8 h13) fun _ h15 => 
      g_X11_sum_L4 R n h15) fun j5 =>
    if r4 = 0 then
      (bnd (g_X11_isSign (45 : Int32) h3) fun r18 h17 => 
      if r18 = 0 then
        (some ((), h17))
      else
        (j5 h17))
    else
      (j5 h3)
def g_X11_sum (R : Nat → HH → Option (Unit × HH)) (h : HH) : Option (Unit × HH) :=
  bnd (R 4 h) fun _ h1 => 
  g_X11_sum_L4 R 1024 h1
def g_X11_product_L4 (R : Nat → HH → Option (Unit × HH)) : Nat → HH → Option (Unit × HH)
  | 0, _ => none
  | n + 1, h =>
    bnd (g_X11_isSign (42 : Int32) h) fun r4 h3 => 
    jn (fun  (h7 : HH) =>
      gfI h7 255 26 fun v8 =>
      bnd (g_X11_knot h7) fun _ h9 => 
      bnd (g_X11_goOn h9) fun _ h11 => 
      bnd (R 5 h11) fun _ h13 => 
      bnd (g_X11_puts (2 : Int32) v8 h13) fun _ h15 => 
      g_X11_product_L4 R n h15) fun j5 =>
    if r4 = 0 then
      (bnd (g_X11_isSign (47 : Int32) h3) fun r18 h17 => 
      if r18 = 0 then
        (some ((), h17))
      else
        (j5 h17))
    else
      (j5 h3)
def g_X11_product (R : Nat → HH → Option (Unit × HH)) (h : HH) : Option (Unit × HH) :=
  bnd (R 5 h) fun _ h1 => 
  g_X11_product_L4 R 1024 h1
def g_X11_primary (R : Nat → HH → Option (Unit × HH)) (h : HH) : Option (Unit × HH) :=
  gfI h 255 27 fun v1 =>
  if v1 = 0 then
    (bnd (g_X11_isSign (40 : Int32) h) fun r3 h2 => 
    if r3 = 0 then
      (gfI h2 255 25 fun v4 =>
      jn (fun (y8 : Int32) (h7 : HH) =>
        jn (fun  (h11 : HH) =>
          bnd (g_X11_knot h11) fun _ h12 => 
          jn (fun (y17 : Int32) (h16 : HH) =>
            jn (fun (y21 : Int32) (h20 : HH) =>
              bnd (g_X11_puts y17 y21 h20) fun _ h22 => 
              bnd (g_X11_goOn h22) fun _ h24 => 
              some ((), h24)) fun j18 =>
            if y8 = 0 then
              (gfI h16 255 26 fun v26 =>
              j18 (v26 - (17 : Int32)) h16)
            else
              (gfI h16 255 26 fun v27 =>
              j18 v27 h16)) fun j14 =>
          if y8 = 0 then
            (j14 (1 : Int32) h12)
          else
            (j14 (0 : Int32) h12)) fun j9 =>
        jn (fun  (h30 : HH) =>
          if y8 = 0 then
            (gfI h30 255 25 fun v31 =>
            jn (fun  (h34 : HH) =>
              bnd (g_X11_wrong (1 : Int32) h34) fun _ h35 => 
              j9 h35) fun j32 =>
            if v31 = 0 then
              (gfI h30 255 26 fun v37 =>
              if v37 < (17 : Int32) then
                (j32 h30)
              else
                (j9 h30))
            else
              (j32 h30))
          else
            (j9 h30)) fun j28 =>
        if y8 = 0 then
          (j28 h7)
        else
          (gfI h7 255 26 fun v38 =>
          if (9999 : Int32) < v38 then
            (bnd (g_X11_wrong (2 : Int32) h7) fun _ h39 => 
            j9 h39)
          else
            (j28 h7))) fun j5 =>
      if v4 = (2 : Int32) then
        (j5 (1 : Int32) h2)
      else
        (j5 (0 : Int32) h2))
    else
      (gfI h2 255 31 fun v41 =>
      jn (fun  (h44 : HH) =>
        gfI h44 255 27 fun v45 =>
        if v45 = 0 then
          (gfI h44 255 31 fun v46 =>
          pfI h44 255 31 (v46 + (1 : Int32)) fun h47 =>
          bnd (g_X11_token h47) fun _ h48 => 
          bnd (R 0 h48) fun _ h50 => 
          gfI h50 255 27 fun v52 =>
          jn (fun  (h55 : HH) =>
            gfI h55 255 27 fun v56 =>
            if v56 = 0 then
              (gfI h55 255 31 fun v57 =>
              pfI h55 255 31 (v57 - (1 : Int32)) fun h58 =>
              bnd (g_X11_token h58) fun _ h59 => 
              some ((), h59))
            else
              (some ((), h55))) fun j53 =>
          if v52 = 0 then
            (bnd (g_X11_isSign (41 : Int32) h50) fun r62 h61 => 
            if r62 = 0 then
              (bnd (g_X11_wrong (1 : Int32) h61) fun _ h63 => 
              j53 h63)
            else
              (j53 h61))
          else
            (j53 h50))
        else
          (some ((), h44))) fun j42 =>
      if v41 = (8 : Int32) then
        (bnd (g_X11_wrong (2 : Int32) h2) fun _ h65 => 
        j42 h65)
      else
        (j42 h2)))
  else
    (some ((), h))
def rG : Nat → Nat → HH → Option (Unit × HH)
  | 0, _, _ => none
  | n + 1, t, h => match t with
    | 0 => g_X11_expression (rG n) h
    | 1 => g_X11_conjunction (rG n) h
    | 2 => g_X11_negation (rG n) h
    | 3 => g_X11_sum (rG n) h
    | 4 => g_X11_product (rG n) h
    | _ => g_X11_primary (rG n) h
def g_X11_lawLine (h : HH) : Option (Unit × HH) :=
  gfI h 255 25 fun v1 =>
  jn (fun  (h4 : HH) =>
    gfI h4 255 26 fun v5 =>
    vl ((v5 - (11 : Int32))) fun v6 =>
    gfI h4 255 27 fun v7 =>
    jn (fun  (h10 : HH) =>
      gfI h10 255 27 fun v11 =>
      if v11 = 0 then
        (gfI h10 255 20 fun v12 =>
        pfI h10 255 20 (v12 ||| ((1 : Int32) <<< (((16 : Int32) + v6) &&& 31))) fun h13 =>
        bnd (g_X11_token h13) fun _ h14 => 
        bnd (g_X11_fresher (6 : Int32) h14) fun r17 h16 => 
        stI h16 270 6 ((3 : Int32) + v6) r17 fun h18 =>
        bnd (rG 200 0 h18) fun _ h19 => 
        bnd (g_X11_fresher (6 : Int32) h19) fun r22 h21 => 
        stI h21 271 6 ((3 : Int32) + v6) r22 fun h23 =>
        some ((), h23))
      else
        (some ((), h10))) fun j8 =>
    if v7 = 0 then
      (gfI h4 255 20 fun v24 =>
      if ((v24 >>> (((16 : Int32) + v6) &&& 31)) &&& (1 : Int32)) = (1 : Int32) then
        (bnd (g_X11_wrong (3 : Int32) h4) fun _ h25 => 
        j8 h25)
      else
        (j8 h4))
    else
      (j8 h4)) fun j2 =>
  jn (fun  (h29 : HH) =>
    bnd (g_X11_wrong (1 : Int32) h29) fun _ h30 => 
    j2 h30) fun j27 =>
  if v1 = 0 then
    (gfI h 255 26 fun v32 =>
    if v32 < (11 : Int32) then
      (j27 h)
    else
      (gfI h 255 26 fun v33 =>
      if (13 : Int32) < v33 then
        (j27 h)
      else
        (j2 h)))
  else
    (j27 h)
def g_X11_personLine_L61 (K85 : HH → Option (Unit × HH)) (c1 : Int32) : Nat → Int32 → HH → Option (Unit × HH)
  | 0, _, _ => none
  | n + 1, x2, h =>
    if x2 < (6 : Int32) then
      (stI h 262 72 (((6 : Int32) * c1) + x2) (0 : Int32) fun h17 =>
      vl (x2 + (1 : Int32)) fun v18 =>
      g_X11_personLine_L61 K85 c1 n v18 h17)
    else
      (K85 h)
def g_X11_personLine (h : HH) : Option (Unit × HH) :=
  bnd (g_X11_fresher (1 : Int32) h) fun r2 h1 => 
  vl (((6 : Int32) + r2)) fun v3 =>
  bnd (g_X11_fresher (1 : Int32) h1) fun r5 h4 => 
  bnd (g_X11_fresh (6 : Int32) r5 h4) fun r7 h6 => 
  stI h6 259 12 v3 r7 fun h8 =>
  bnd (g_X11_fresher (0 : Int32) h8) fun r10 h9 => 
  bnd (g_X11_numeral (0 : Int32) r10 h9) fun r12 h11 => 
  stI h11 260 12 v3 r12 fun h13 =>
  bnd (g_X11_numeral (0 : Int32) (99 : Int32) h13) fun r15 h14 => 
  stI h14 261 12 v3 r15 fun h16 =>
  g_X11_personLine_L61 (fun  (h19 : HH) =>
    bnd (g_X11_fresher (1 : Int32) h19) fun r21 h20 => 
    bnd (g_X11_reads (1 : Int32) (r21 + (1 : Int32)) h20) fun _ h22 => 
    some ((), h22)) v3 1024 (0 : Int32) h16
def g_X11_tallyLine (a0 : Int32) (h : HH) : Option (Unit × HH) :=
  bnd (g_X11_personAhead h) fun r2 h1 => 
  vl (((6 : Int32) + r2)) fun v3 =>
  gfI h1 255 27 fun v4 =>
  jn (fun  (h7 : HH) =>
    bnd (g_X11_fresher (0 : Int32) h7) fun r9 h8 => 
    bnd (g_X11_numeral (0 : Int32) (r9 - (1 : Int32)) h8) fun r11 h10 => 
    bnd (g_X11_numeral (1 : Int32) (9 : Int32) h10) fun r13 h12 => 
    gfI h12 255 27 fun v14 =>
    if v14 = 0 then
      (stI h12 262 72 (((6 : Int32) * v3) + r11) (a0 * r13) fun h15 =>
      some ((), h15))
    else
      (some ((), h12))) fun j5 =>
  if v4 = 0 then
    (gfI h1 255 25 fun v16 =>
    if v16 = (2 : Int32) then
      (gfI h1 255 26 fun v17 =>
      bnd (g_X11_fresher (0 : Int32) h1) fun r19 h18 => 
      if v17 < r19 then
        (gfI h18 255 26 fun v20 =>
        ldI h18 262 72 (((6 : Int32) * v3) + v20) fun v21 =>
        if v21 = 0 then
          (j5 h18)
        else
          (bnd (g_X11_wrong (3 : Int32) h18) fun _ h22 => 
          j5 h22))
      else
        (j5 h18))
    else
      (j5 h1))
  else
    (j5 h1)
def g_X11_line (h : HH) : Option (Unit × HH) :=
  gfI h 255 25 fun v1 =>
  jn (fun  (h4 : HH) =>
    bnd (g_X11_wrong (1 : Int32) h4) fun _ h5 => 
    some ((), h5)) fun j2 =>
  if v1 = 0 then
    (gfI h 255 26 fun v7 =>
    if (10 : Int32) < v7 then
      (j2 h)
    else
      (gfI h 255 26 fun v8 =>
      jn (fun  (h11 : HH) =>
        gfI h11 255 26 fun v12 =>
        bnd (g_X11_isFull v12 h11) fun r14 h13 => 
        jn (fun  (h17 : HH) =>
          gfI h17 255 27 fun v18 =>
          if v18 = 0 then
            (gfI h17 255 20 fun v19 =>
            pfI h17 255 20 (v19 ||| ((1 : Int32) <<< (v12 &&& 31))) fun h20 =>
            bnd (g_X11_token h20) fun _ h21 => 
            jn (fun  (h25 : HH) =>
              gfI h25 255 27 fun v26 =>
              if v26 = 0 then
                (bnd (g_X11_isSign (59 : Int32) h25) fun r28 h27 => 
                jn (fun  (h31 : HH) =>
                  gfI h31 255 21 fun v32 =>
                  pfI h31 255 21 (v32 + (1 : Int32)) fun h33 =>
                  some ((), h33)) fun j29 =>
                if r28 = 0 then
                  (bnd (g_X11_wrong (1 : Int32) h27) fun _ h34 => 
                  j29 h34)
                else
                  (bnd (g_X11_token h27) fun _ h36 => 
                  j29 h36))
              else
                (some ((), h25))) fun j23 =>
            if v12 = (0 : Int32) then
              (bnd (g_X11_numeral (1 : Int32) (20 : Int32) h21) fun r40 h39 => 
              bnd (g_X11_fresher (0 : Int32) h39) fun r42 h41 => 
              stI h41 258 12 ((6 : Int32) + r42) r40 fun h43 =>
              bnd (g_X11_fresher (0 : Int32) h43) fun r45 h44 => 
              bnd (g_X11_reads (0 : Int32) (r45 + (1 : Int32)) h44) fun _ h46 => 
              j23 h46)
            else
              (if v12 = (1 : Int32) then
                (bnd (g_X11_personLine h21) fun _ h49 => 
                j23 h49)
              else
                (if v12 = (2 : Int32) then
                  (bnd (g_X11_tallyLine (1 : Int32) h21) fun _ h52 => 
                  j23 h52)
                else
                  (if v12 = (3 : Int32) then
                    (bnd (g_X11_tallyLine (-1 : Int32) h21) fun _ h55 => 
                    j23 h55)
                  else
                    (if v12 = (4 : Int32) then
                      (bnd (g_X11_ladderLine h21) fun _ h58 => 
                      j23 h58)
                    else
                      (if v12 = (5 : Int32) ∨ v12 = (6 : Int32) ∨ v12 = (7 : Int32) then
                        (bnd (g_X11_goingLine (v12 - (5 : Int32)) h21) fun _ h61 => 
                        j23 h61)
                      else
                        (if v12 = (8 : Int32) then
                          (bnd (g_X11_numeral (0 : Int32) (100 : Int32) h21) fun r65 h64 => 
                          bnd (g_X11_reads (4 : Int32) r65 h64) fun _ h66 => 
                          j23 h66)
                        else
                          (if v12 = (9 : Int32) then
                            (bnd (g_X11_numeral (0 : Int32) (99999 : Int32) h21) fun r70 h69 => 
                            bnd (g_X11_reads (5 : Int32) r70 h69) fun _ h71 => 
                            j23 h71)
                          else
                            (bnd (g_X11_lawLine h21) fun _ h73 => 
                            j23 h73)))))))))
          else
            (some ((), h17))) fun j15 =>
        if r14 = 0 then
          (jn (fun  (h77 : HH) =>
            gfI h77 255 20 fun v78 =>
            if ((v78 >>> (v12 &&& 31)) &&& (1 : Int32)) = (1 : Int32) then
              (bnd (g_X11_wrong (3 : Int32) h77) fun _ h79 => 
              j15 h79)
            else
              (j15 h77)) fun j75 =>
          if v12 = (8 : Int32) then
            (j75 h13)
          else
            (if v12 = (9 : Int32) then
              (j75 h13)
            else
              (j15 h13)))
        else
          (bnd (g_X11_wrong (2 : Int32) h13) fun _ h81 => 
          j15 h81)) fun j9 =>
      if v8 = 0 then
        (gfI h 255 20 fun v83 =>
        if (v83 &&& (254 : Int32)) = 0 then
          (j9 h)
        else
          (j2 h))
      else
        (j9 h)))
  else
    (j2 h)
def g_X11_half_L7 (b_a0 : Nat) (c1 : Int32) : Nat → Int32 → HH → Option (Unit × HH)
  | 0, _, _ => none
  | n + 1, x2, h =>
    if x2 < c1 then
      (ldI h b_a0 (lnA b_a0) (c1 + x2) fun v2 =>
      stI h b_a0 (lnA b_a0) x2 v2 fun h3 =>
      vl (x2 + (1 : Int32)) fun v4 =>
      g_X11_half_L7 b_a0 c1 n v4 h3)
    else
      (some ((), h))
def g_X11_half (a0 : Nat) (h : HH) : Option (Unit × HH) :=
  ckA a0 (
  dvI (Int32.ofNat (lnA a0)) (2 : Int32) fun v1 =>
  g_X11_half_L7 a0 v1 1024 (0 : Int32) h)
def g_X11_starts_L82 (K158 : HH → Option (Unit × HH)) (c1 : Int32) (c2 : Int32) : Nat → Int32 → HH → Option (Unit × HH)
  | 0, _, _ => none
  | n + 1, x3, h =>
    if x3 < (6 : Int32) then
      (ldI h 257 14 (1 : Int32) fun v9 =>
      jn (fun (y13 : Int32) (h12 : HH) =>
        stI h12 282 828 ((((36 : Int32) * c1) + ((6 : Int32) * c2)) + x3) y13 fun h14 =>
        vl (x3 + (1 : Int32)) fun v15 =>
        g_X11_starts_L82 K158 c1 c2 n v15 h14) fun j10 =>
      if c2 < v9 then
        (gfI h 255 45 fun v16 =>
        jn (fun  (h19 : HH) =>
          ldI h19 262 72 (((6 : Int32) * c2) + x3) fun v20 =>
          j10 v20 h19) fun j17 =>
        if c2 = v16 then
          (gfI h 255 46 fun v21 =>
          if x3 = v21 then
            (gfI h 255 47 fun v22 =>
            j10 v22 h)
          else
            (j17 h))
        else
          (j17 h))
      else
        (j10 (0 : Int32) h))
    else
      (K158 h)
def g_X11_starts_L21 (c1 : Int32) : Nat → Int32 → HH → Option (Unit × HH)
  | 0, _, _ => none
  | n + 1, x2, h =>
    if x2 < (6 : Int32) then
      (ldI h 260 12 x2 fun v4 =>
      stI h 278 138 (((6 : Int32) * c1) + x2) v4 fun h5 =>
      stI h5 279 138 (((6 : Int32) * c1) + x2) (0 : Int32) fun h6 =>
      stI h6 280 138 (((6 : Int32) * c1) + x2) (0 : Int32) fun h7 =>
      stI h7 281 138 (((6 : Int32) * c1) + x2) (0 : Int32) fun h8 =>
      g_X11_starts_L82 (fun  (h23 : HH) =>
        vl (x2 + (1 : Int32)) fun v24 =>
        g_X11_starts_L21 c1 n v24 h23) c1 x2 1024 (0 : Int32) h8)
    else
      (some ((), h))
def g_X11_starts (a0 : Int32) (h : HH) : Option (Unit × HH) :=
  stI h 276 23 a0 (0 : Int32) fun h1 =>
  ldI h1 257 14 (5 : Int32) fun v2 =>
  stI h1 277 23 a0 v2 fun h3 =>
  g_X11_starts_L21 a0 1024 (0 : Int32) h3
def g_X11_begins (h : HH) : Option (Unit × HH) :=
  bnd (g_X11_starts (0 : Int32) h) fun _ h1 => 
  some ((), h1)
def g_X11_text_L47 (K65 : HH → Option (Int32 × HH)) : Nat → Int32 → HH → Option (Int32 × HH)
  | 0, _, _ => none
  | n + 1, x2, h =>
    if x2 < (7 : Int32) then
      (bnd (g_X11_reads x2 (0 : Int32) h) fun _ h8 => 
      vl (x2 + (1 : Int32)) fun v10 =>
      g_X11_text_L47 K65 n v10 h8)
    else
      (K65 h)
def g_X11_text_L67 (K93 : HH → Option (Int32 × HH)) : Nat → Int32 → HH → Option (Int32 × HH)
  | 0, _, _ => none
  | n + 1, x2, h =>
    if x2 < (6 : Int32) then
      (stI h 270 6 x2 (0 : Int32) fun h12 =>
      stI h12 271 6 x2 (0 : Int32) fun h13 =>
      vl (x2 + (1 : Int32)) fun v14 =>
      g_X11_text_L67 K93 n v14 h13)
    else
      (K93 h)
def g_X11_text_L117 (K139 : HH → Option (Int32 × HH)) : Nat → HH → Option (Int32 × HH)
  | 0, _ => none
  | n + 1, h =>
    gfI h 255 27 fun v22 =>
    if v22 = 0 then
      (gfI h 255 25 fun v23 =>
      if v23 = (4 : Int32) then
        (K139 h)
      else
        (bnd (g_X11_line h) fun _ h24 => 
        g_X11_text_L117 K139 n h24))
    else
      (K139 h)
def g_X11_text (a0 : Int32) (h : HH) : Option (Int32 × HH) :=
  pfI h 255 0 (0 : Int32) fun h1 =>
  if a0 < 0 then
    (some ((-2 : Int32), h1))
  else
    (gfI h1 255 2 fun v2 =>
    if v2 < a0 then
      (some ((-2 : Int32), h1))
    else
      (pfI h1 255 22 a0 fun h3 =>
      pfI h3 255 2 (0 : Int32) fun h4 =>
      pfI h4 255 23 (0 : Int32) fun h5 =>
      pfI h5 255 27 (0 : Int32) fun h6 =>
      pfI h6 255 28 (-1 : Int32) fun h7 =>
      g_X11_text_L47 (fun  (h11 : HH) =>
        g_X11_text_L67 (fun  (h15 : HH) =>
          pfI h15 255 20 (0 : Int32) fun h16 =>
          pfI h16 255 21 (0 : Int32) fun h17 =>
          pfI h17 255 31 (0 : Int32) fun h18 =>
          pfI h18 255 32 (0 : Int32) fun h19 =>
          bnd (g_X11_token h19) fun _ h20 => 
          g_X11_text_L117 (fun  (h26 : HH) =>
            gfI h26 255 27 fun v27 =>
            pfI h26 255 29 v27 fun h28 =>
            gfI h28 255 28 fun v29 =>
            pfI h28 255 30 v29 fun h30 =>
            gfI h30 255 27 fun v31 =>
            if v31 = 0 then
              (bnd (g_X11_half 257 h30) fun _ h32 => 
              bnd (g_X11_half 258 h32) fun _ h34 => 
              bnd (g_X11_half 259 h34) fun _ h36 => 
              bnd (g_X11_half 260 h36) fun _ h38 => 
              bnd (g_X11_half 261 h38) fun _ h40 => 
              bnd (g_X11_half 262 h40) fun _ h42 => 
              bnd (g_X11_half 263 h42) fun _ h44 => 
              bnd (g_X11_half 264 h44) fun _ h46 => 
              bnd (g_X11_half 265 h46) fun _ h48 => 
              bnd (g_X11_half 266 h48) fun _ h50 => 
              bnd (g_X11_half 267 h50) fun _ h52 => 
              bnd (g_X11_half 268 h52) fun _ h54 => 
              bnd (g_X11_half 269 h54) fun _ h56 => 
              bnd (g_X11_half 270 h56) fun _ h58 => 
              bnd (g_X11_half 271 h58) fun _ h60 => 
              bnd (g_X11_half 272 h60) fun _ h62 => 
              bnd (g_X11_half 273 h62) fun _ h64 => 
              pfI h64 255 56 (0 : Int32) fun h66 =>
              pfI h66 255 57 (-1 : Int32) fun h67 =>
              pfI h67 255 43 (0 : Int32) fun h68 =>
              pfI h68 255 44 (0 : Int32) fun h69 =>
              bnd (g_X11_begins h69) fun _ h70 => 
              gfI h70 255 21 fun v72 =>
              some (v72, h70))
            else
              (some ((-1 : Int32), h30))) 1024 h20) 1024 (3 : Int32) h11) 1024 (0 : Int32) h7))
def g_X11_fault (a0 : Int32) (h : HH) : Option (Int32 × HH) :=
  pfI h 255 0 (0 : Int32) fun h1 =>
  if a0 = 0 then
    (gfI h1 255 29 fun v2 =>
    some (v2, h1))
  else
    (if a0 = (1 : Int32) then
      (gfI h1 255 30 fun v3 =>
      some (v3, h1))
    else
      (some ((-1 : Int32), h1)))
def g_X11_named (a0 : Int32) (h : HH) : Option (Int32 × HH) :=
  pfI h 255 0 (0 : Int32) fun h1 =>
  ldI h1 257 14 (1 : Int32) fun v2 =>
  bnd (g_X11_found (0 : Int32) v2 a0 h1) fun r4 h3 => 
  some (r4, h3)
def g_X11_is (a0 : Int32) (h : HH) : Option (Int64 × HH) :=
  if a0 = 0 then
    (some ((0 : Int64), h))
  else
    (some ((1 : Int64), h))
def g_X11_works (a0 : Int32) (h : HH) : Option (Int32 × HH) :=
  gfI h 255 35 fun v1 =>
  ldL h 275 64 (v1 - (1 : Int32)) fun v2 =>
  if a0 = (260 : Int32) then
    (gfI h 255 35 fun v3 =>
    jn (fun (y7 : Int32) (h6 : HH) =>
      bnd (g_X11_is y7 h6) fun r9 h8 => 
      stL h8 275 64 (v3 - (1 : Int32)) r9 fun h10 =>
      some ((1 : Int32), h10)) fun j4 =>
    if (lg_cmp v2 (0 : Int64)) = 0 then
      (j4 (1 : Int32) h)
    else
      (j4 (0 : Int32) h))
  else
    (gfI h 255 35 fun v11 =>
    ldL h 275 64 (v11 - (2 : Int32)) fun v12 =>
    gfI h 255 35 fun v13 =>
    pfI h 255 35 (v13 - (1 : Int32)) fun h14 =>
    jn (fun (u18 : Int64) (h17 : HH) =>
      gfI h17 255 35 fun v19 =>
      stL h17 275 64 (v19 - (1 : Int32)) u18 fun h20 =>
      if 0 < (lg_cmp u18 (1000000000000 : Int64)) then
        (some ((0 : Int32), h20))
      else
        (if (lg_cmp u18 (-1000000000000 : Int64)) < 0 then
          (some ((0 : Int32), h20))
        else
          (some ((1 : Int32), h20)))) fun j15 =>
    if a0 = (42 : Int32) then
      (jn (fun  (h24 : HH) =>
        vl ((v12 * v2)) fun v25 =>
        j15 v25 h24) fun j22 =>
      if (lg_cmp v12 (0 : Int64)) = 0 then
        (j22 h14)
      else
        (dvL (1000000000000 : Int64) (abL v12) fun v26 =>
        if 0 < (lg_cmp (abL v2) v26) then
          (some ((0 : Int32), h14))
        else
          (j22 h14)))
    else
      (if a0 = (43 : Int32) then
        (vl ((v12 + v2)) fun v28 =>
        j15 v28 h14)
      else
        (if a0 = (45 : Int32) then
          (vl ((v12 - v2)) fun v30 =>
          j15 v30 h14)
        else
          (if a0 = (47 : Int32) then
            (if (lg_cmp v2 (0 : Int64)) = 0 then
              (some ((0 : Int32), h14))
            else
              (dvL v12 v2 fun v32 =>
              j15 v32 h14))
          else
            (if a0 = (60 : Int32) then
              (jn (fun (y37 : Int32) (h36 : HH) =>
                bnd (g_X11_is y37 h36) fun r39 h38 => 
                j15 r39 h38) fun j34 =>
              if (lg_cmp v12 v2) < 0 then
                (j34 (1 : Int32) h14)
              else
                (j34 (0 : Int32) h14))
            else
              (if a0 = (61 : Int32) then
                (jn (fun (y44 : Int32) (h43 : HH) =>
                  bnd (g_X11_is y44 h43) fun r46 h45 => 
                  j15 r46 h45) fun j41 =>
                if (lg_cmp v12 v2) = 0 then
                  (j41 (1 : Int32) h14)
                else
                  (j41 (0 : Int32) h14))
              else
                (if a0 = (62 : Int32) then
                  (jn (fun (y51 : Int32) (h50 : HH) =>
                    bnd (g_X11_is y51 h50) fun r53 h52 => 
                    j15 r53 h52) fun j48 =>
                  if 0 < (lg_cmp v12 v2) then
                    (j48 (1 : Int32) h14)
                  else
                    (j48 (0 : Int32) h14))
                else
                  (if a0 = (256 : Int32) then
                    (jn (fun (y58 : Int32) (h57 : HH) =>
                      bnd (g_X11_is y58 h57) fun r60 h59 => 
                      j15 r60 h59) fun j55 =>
                    if 0 < (lg_cmp v12 v2) then
                      (j55 (0 : Int32) h14)
                    else
                      (j55 (1 : Int32) h14))
                  else
                    (if a0 = (257 : Int32) then
                      (jn (fun (y65 : Int32) (h64 : HH) =>
                        bnd (g_X11_is y65 h64) fun r67 h66 => 
                        j15 r67 h66) fun j62 =>
                      if (lg_cmp v12 v2) = 0 then
                        (j62 (0 : Int32) h14)
                      else
                        (j62 (1 : Int32) h14))
                    else
                      (if a0 = (258 : Int32) then
                        (jn (fun (y72 : Int32) (h71 : HH) =>
                          bnd (g_X11_is y72 h71) fun r74 h73 => 
                          j15 r74 h73) fun j69 =>
                        if (lg_cmp v12 v2) < 0 then
                          (j69 (0 : Int32) h14)
                        else
                          (j69 (1 : Int32) h14))
                      else
                        (if a0 = (261 : Int32) then
                          (jn (fun (y79 : Int32) (h78 : HH) =>
                            bnd (g_X11_is y79 h78) fun r81 h80 => 
                            j15 r81 h80) fun j76 =>
                          jn (fun  (h84 : HH) =>
                            j76 (0 : Int32) h84) fun j82 =>
                          if (lg_cmp v12 (0 : Int64)) = 0 then
                            (j82 h14)
                          else
                            (if (lg_cmp v2 (0 : Int64)) = 0 then
                              (j82 h14)
                            else
                              (j76 (1 : Int32) h14)))
                        else
                          (jn (fun (y88 : Int32) (h87 : HH) =>
                            bnd (g_X11_is y88 h87) fun r90 h89 => 
                            j15 r90 h89) fun j85 =>
                          jn (fun  (h93 : HH) =>
                            j85 (1 : Int32) h93) fun j91 =>
                          if (lg_cmp v12 (0 : Int64)) = 0 then
                            (if (lg_cmp v2 (0 : Int64)) = 0 then
                              (j85 (0 : Int32) h14)
                            else
                              (j91 h14))
                          else
                            (j91 h14)))))))))))))
def g_X11_goes_L12 (c1 : Int32) : Nat → Int32 → HH → Option (Int32 × HH)
  | 0, _, _ => none
  | n + 1, x2, h =>
    ldI h 271 6 c1 fun v3 =>
    if x2 < v3 then
      (ldI h 272 128 x2 fun v4 =>
      jn (fun  (h7 : HH) =>
        vl (x2 + (1 : Int32)) fun v8 =>
        g_X11_goes_L12 c1 n v8 h7) fun j5 =>
      if v4 = (2 : Int32) then
        (ldI h 273 128 x2 fun v9 =>
        bnd (g_X11_works v9 h) fun r11 h10 => 
        if r11 = 0 then
          (some ((0 : Int32), h10))
        else
          (j5 h10))
      else
        (gfI h 255 35 fun v12 =>
        ldI h 272 128 x2 fun v13 =>
        jn (fun (y17 : Int64) (h16 : HH) =>
          stL h16 275 64 v12 y17 fun h18 =>
          gfI h18 255 35 fun v19 =>
          pfI h18 255 35 (v19 + (1 : Int32)) fun h20 =>
          j5 h20) fun j14 =>
        if v13 = 0 then
          (ldI h 273 128 x2 fun v21 =>
          j14 (Int32.toInt64 v21) h)
        else
          (ldI h 273 128 x2 fun v22 =>
          ldL h 274 7 v22 fun v23 =>
          j14 v23 h)))
    else
      (some ((1 : Int32), h))
def g_X11_goes (a0 : Int32) (h : HH) : Option (Int32 × HH) :=
  pfI h 255 35 (0 : Int32) fun h1 =>
  ldI h1 270 6 a0 fun v2 =>
  g_X11_goes_L12 a0 1024 v2 h1
def g_X11_hasLaw (a0 : Int32) (h : HH) : Option (Int32 × HH) :=
  ldI h 271 6 a0 fun v1 =>
  ldI h 270 6 a0 fun v2 =>
  if v2 < v1 then
    (some ((1 : Int32), h))
  else
    (some ((0 : Int32), h))
def g_X11_copies_L26 (K126 : HH → Option (Unit × HH)) (c1 : Int32) (c2 : Int32) : Nat → Int32 → HH → Option (Unit × HH)
  | 0, _, _ => none
  | n + 1, x3, h =>
    if x3 < (6 : Int32) then
      (ldI h 278 138 (((6 : Int32) * c2) + x3) fun v5 =>
      stI h 278 138 (((6 : Int32) * c1) + x3) v5 fun h6 =>
      ldI h6 279 138 (((6 : Int32) * c2) + x3) fun v7 =>
      stI h6 279 138 (((6 : Int32) * c1) + x3) v7 fun h8 =>
      ldI h8 280 138 (((6 : Int32) * c2) + x3) fun v9 =>
      stI h8 280 138 (((6 : Int32) * c1) + x3) v9 fun h10 =>
      ldI h10 281 138 (((6 : Int32) * c2) + x3) fun v11 =>
      stI h10 281 138 (((6 : Int32) * c1) + x3) v11 fun h12 =>
      vl (x3 + (1 : Int32)) fun v13 =>
      g_X11_copies_L26 K126 c1 c2 n v13 h12)
    else
      (K126 h)
def g_X11_copies_L128 (c1 : Int32) (c2 : Int32) : Nat → Int32 → HH → Option (Unit × HH)
  | 0, _, _ => none
  | n + 1, x3, h =>
    if x3 < (36 : Int32) then
      (ldI h 282 828 (((36 : Int32) * c2) + x3) fun v15 =>
      stI h 282 828 (((36 : Int32) * c1) + x3) v15 fun h16 =>
      vl (x3 + (1 : Int32)) fun v17 =>
      g_X11_copies_L128 c1 c2 n v17 h16)
    else
      (some ((), h))
def g_X11_copies (a0 : Int32) (a1 : Int32) (h : HH) : Option (Unit × HH) :=
  ldI h 276 23 a1 fun v1 =>
  stI h 276 23 a0 v1 fun h2 =>
  ldI h2 277 23 a1 fun v3 =>
  stI h2 277 23 a0 v3 fun h4 =>
  g_X11_copies_L26 (fun  (h14 : HH) =>
    g_X11_copies_L128 a0 a1 1024 (0 : Int32) h14) a0 a1 1024 (0 : Int32) h4
def g_X11_isPerson (a0 : Int32) (h : HH) : Option (Int32 × HH) :=
  if a0 < 0 then
    (some ((0 : Int32), h))
  else
    (ldI h 257 14 (1 : Int32) fun v1 =>
    if a0 < v1 then
      (some ((1 : Int32), h))
    else
      (some ((0 : Int32), h)))
def g_X11_isFlight (a0 : Int32) (h : HH) : Option (Int32 × HH) :=
  if a0 < 0 then
    (some ((0 : Int32), h))
  else
    (ldI h 257 14 (0 : Int32) fun v1 =>
    if a0 < v1 then
      (some ((1 : Int32), h))
    else
      (some ((0 : Int32), h)))
def g_X11_isFloor (a0 : Int32) (h : HH) : Option (Int32 × HH) :=
  if a0 < 0 then
    (some ((0 : Int32), h))
  else
    (ldI h 257 14 (0 : Int32) fun v1 =>
    if v1 < a0 then
      (some ((0 : Int32), h))
    else
      (some ((1 : Int32), h)))
def g_X11_areOf (a0 : Int32) (a1 : Int32) (h : HH) : Option (Int32 × HH) :=
  bnd (g_X11_isPerson a0 h) fun r2 h1 => 
  if r2 = 0 then
    (some ((0 : Int32), h1))
  else
    (bnd (g_X11_isFlight a1 h1) fun r4 h3 => 
    if r4 = 0 then
      (some ((0 : Int32), h3))
    else
      (some ((1 : Int32), h3)))
def g_X11_forceOf (a0 : Int32) (h : HH) : Option (Int32 × HH) :=
  gfI h 255 48 fun v1 =>
  if v1 = (4 : Int32) then
    (some ((99 : Int32), h))
  else
    (ldI h 261 12 a0 fun v2 =>
    some (v2, h))
def g_X11_manyOn_L5 (c1 : Int32) (c2 : Int32) : Nat → Int32 → Int32 → HH → Option (Int32 × HH)
  | 0, _, _, _ => none
  | n + 1, x3, x4, h =>
    ldI h 257 14 (1 : Int32) fun v1 =>
    if x4 < v1 then
      (ldI h 278 138 (((6 : Int32) * c1) + x4) fun v2 =>
      jn (fun (y6 : Int32) (h5 : HH) =>
        vl ((x3 + y6)) fun v7 =>
        vl (x4 + (1 : Int32)) fun v8 =>
        g_X11_manyOn_L5 c1 c2 n v7 v8 h5) fun j3 =>
      if v2 = c2 then
        (j3 (1 : Int32) h)
      else
        (j3 (0 : Int32) h))
    else
      (some (x3, h))
def g_X11_manyOn (a0 : Int32) (a1 : Int32) (h : HH) : Option (Int32 × HH) :=
  g_X11_manyOn_L5 a0 a1 1024 (0 : Int32) (0 : Int32) h
def g_X11_tallyAt (a0 : Int32) (a1 : Int32) (a2 : Int32) (h : HH) : Option (Int32 × HH) :=
  ldI h 282 828 ((((36 : Int32) * a0) + ((6 : Int32) * a1)) + a2) fun v1 =>
  some (v1, h)
def g_X11_calls (a0 : Int32) (a1 : Int32) (a2 : Int32) (h : HH) : Option (Unit × HH) :=
  bnd (g_X11_tallyAt a0 a1 a2 h) fun r2 h1 => 
  stL h1 274 7 (0 : Int32) (Int32.toInt64 r2) fun h3 =>
  ldI h3 258 12 a2 fun v4 =>
  stL h3 274 7 (1 : Int32) (Int32.toInt64 v4) fun h5 =>
  stL h5 274 7 (2 : Int32) (Int32.toInt64 a2) fun h6 =>
  bnd (g_X11_forceOf a1 h6) fun r8 h7 => 
  stL h7 274 7 (3 : Int32) (Int32.toInt64 r8) fun h9 =>
  ldI h9 279 138 (((6 : Int32) * a0) + a1) fun v10 =>
  stL h9 274 7 (4 : Int32) (Int32.toInt64 v10) fun h11 =>
  bnd (g_X11_manyOn a0 a2 h11) fun r13 h12 => 
  stL h12 274 7 (5 : Int32) (Int32.toInt64 r13) fun h14 =>
  ldI h14 276 23 a0 fun v15 =>
  stL h14 274 7 (6 : Int32) (Int32.toInt64 v15) fun h16 =>
  some ((), h16)
def g_X11_within (a0 : Int32) (a1 : Int32) (a2 : Int32) (a3 : Int32) (h : HH) : Option (Int32 × HH) :=
  bnd (g_X11_hasLaw a0 h) fun r2 h1 => 
  if r2 = 0 then
    (some (a3, h1))
  else
    (bnd (g_X11_goes a0 h1) fun r4 h3 => 
    if r4 = 0 then
      (some (a3, h3))
    else
      (ldL h3 275 64 (0 : Int32) fun v5 =>
      some ((Int64.toInt32 (mxL (Int32.toInt64 a1) (mnL (Int32.toInt64 a2) v5))), h3)))
def g_X11_steepWith (a0 : Int32) (a1 : Int32) (a2 : Int32) (a3 : Int32) (h : HH) : Option (Int32 × HH) :=
  bnd (g_X11_calls a0 a1 a2 h) fun _ h1 => 
  stL h1 274 7 (0 : Int32) (Int32.toInt64 a3) fun h3 =>
  ldI h3 258 12 a2 fun v4 =>
  bnd (g_X11_within (0 : Int32) (-99 : Int32) (999 : Int32) a3 h3) fun r6 h5 => 
  some ((v4 + r6), h5)
def g_X11_steepOf (a0 : Int32) (a1 : Int32) (a2 : Int32) (h : HH) : Option (Int32 × HH) :=
  bnd (g_X11_tallyAt a0 a1 a2 h) fun r2 h1 => 
  bnd (g_X11_steepWith a0 a1 a2 r2 h1) fun r4 h3 => 
  some (r4, h3)
def g_X11_canClimb (a0 : Int32) (a1 : Int32) (a2 : Int32) (h : HH) : Option (Int32 × HH) :=
  bnd (g_X11_steepOf a0 a1 a2 h) fun r2 h1 => 
  bnd (g_X11_forceOf a1 h1) fun r4 h3 => 
  if r4 < r2 then
    (some ((0 : Int32), h3))
  else
    (bnd (g_X11_calls a0 a1 a2 h3) fun _ h5 => 
    bnd (g_X11_hasLaw (2 : Int32) h5) fun r8 h7 => 
    if r8 = 0 then
      (some ((1 : Int32), h7))
    else
      (bnd (g_X11_goes (2 : Int32) h7) fun r10 h9 => 
      if r10 = 0 then
        (some ((1 : Int32), h9))
      else
        (ldL h9 275 64 (0 : Int32) fun v11 =>
        if (lg_cmp v11 (0 : Int64)) = 0 then
          (some ((0 : Int32), h9))
        else
          (some ((1 : Int32), h9)))))
def g_X11_doesFall (a0 : Int32) (a1 : Int32) (h : HH) : Option (Int32 × HH) :=
  gfI h 255 48 fun v1 =>
  if v1 = (5 : Int32) then
    (some ((0 : Int32), h))
  else
    (ldI h 257 14 (4 : Int32) fun v2 =>
    jn (fun  (h5 : HH) =>
      if v2 < (50 : Int32) then
        (some ((0 : Int32), h5))
      else
        (some ((1 : Int32), h5))) fun j3 =>
    if a1 = 0 then
      (j3 h)
    else
      (if v2 = 0 then
        (j3 h)
      else
        (if v2 = (100 : Int32) then
          (j3 h)
        else
          (ldI h 277 23 a0 fun v6 =>
          stI h 277 23 a0 (((v6 * (1103515245 : Int32)) + (12345 : Int32)) &&& (2147483647 : Int32)) fun h7 =>
          ldI h7 277 23 a0 fun v8 =>
          rmI (v8 >>> ((16 : Int32) &&& 31)) (100 : Int32) fun v9 =>
          if v9 < v2 then
            (some ((1 : Int32), h7))
          else
            (some ((0 : Int32), h7))))))
def g_X11_goesUp (a0 : Int32) (a1 : Int32) (a2 : Int32) (h : HH) : Option (Int32 × HH) :=
  vl ((((6 : Int32) * a0) + a1)) fun v1 =>
  ldI h 278 138 v1 fun v2 =>
  vl (((((36 : Int32) * a0) + ((6 : Int32) * a1)) + v2)) fun v3 =>
  bnd (g_X11_canClimb a0 a1 v2 h) fun r5 h4 => 
  if r5 = 0 then
    (ldI h4 280 138 v1 fun v6 =>
    stI h4 280 138 v1 (v6 + (1 : Int32)) fun h7 =>
    some ((0 : Int32), h7))
  else
    (bnd (g_X11_doesFall a0 a2 h4) fun r9 h8 => 
    if r9 = 0 then
      (bnd (g_X11_steepOf a0 a1 v2 h8) fun r11 h10 => 
      bnd (g_X11_calls a0 a1 v2 h10) fun _ h12 => 
      ldI h12 279 138 v1 fun v14 =>
      bnd (g_X11_within (1 : Int32) (0 : Int32) (99 : Int32) (mxI (0 : Int32) r11) h12) fun r16 h15 => 
      stI h15 279 138 v1 (mnI (99999 : Int32) (v14 + r16)) fun h17 =>
      ldI h17 282 828 v3 fun v18 =>
      stI h17 282 828 v3 (mnI (999 : Int32) (v18 + (1 : Int32))) fun h19 =>
      ldI h19 278 138 v1 fun v20 =>
      stI h19 278 138 v1 (v20 + (1 : Int32)) fun h21 =>
      some ((1 : Int32), h21))
    else
      (ldI h8 281 138 v1 fun v22 =>
      stI h8 281 138 v1 (v22 + (1 : Int32)) fun h23 =>
      stI h23 278 138 v1 (0 : Int32) fun h24 =>
      some ((0 : Int32), h24)))
def g_X11_goesTo_L8 (K73 : HH → Option (Unit × HH)) (c1 : Int32) (c2 : Int32) (c3 : Int32) (c4 : Int32) (c5 : Int32) : Nat → HH → Option (Unit × HH)
  | 0, _ => none
  | n + 1, h =>
    ldI h 278 138 c5 fun v2 =>
    if c3 < v2 then
      (ldI h 278 138 c5 fun v3 =>
      stI h 278 138 c5 (v3 - (1 : Int32)) fun h4 =>
      ldI h4 278 138 c5 fun v5 =>
      vl (((((36 : Int32) * c1) + ((6 : Int32) * c2)) + v5)) fun v6 =>
      ldI h4 282 828 v6 fun v7 =>
      stI h4 282 828 v6 (mxI (-99 : Int32) (v7 - (1 : Int32))) fun h8 =>
      g_X11_goesTo_L8 K73 c1 c2 c3 c4 c5 n h8)
    else
      (K73 h)
def g_X11_goesTo_L76 (c1 : Int32) (c2 : Int32) (c3 : Int32) (c4 : Int32) (c5 : Int32) : Nat → Int32 → HH → Option (Unit × HH)
  | 0, _, _ => none
  | n + 1, x6, h =>
    if x6 = 0 then
      (some ((), h))
    else
      (ldI h 278 138 c5 fun v10 =>
      if v10 < c3 then
        (bnd (g_X11_goesUp c1 c2 c4 h) fun r12 h11 => 
        g_X11_goesTo_L76 c1 c2 c3 c4 c5 n r12 h11)
      else
        (some ((), h)))
def g_X11_goesTo (a0 : Int32) (a1 : Int32) (a2 : Int32) (a3 : Int32) (h : HH) : Option (Unit × HH) :=
  vl ((((6 : Int32) * a0) + a1)) fun v1 =>
  g_X11_goesTo_L8 (fun  (h9 : HH) =>
    g_X11_goesTo_L76 a0 a1 a2 a3 v1 1024 (1 : Int32) h9) a0 a1 a2 a3 v1 1024 h
def g_X11_ropes (a0 : Int32) (a1 : Int32) (a2 : Int32) (h : HH) : Option (Unit × HH) :=
  vl ((((6 : Int32) * a0) + a1)) fun v1 =>
  ldI h 278 138 v1 fun v2 =>
  ldI h 263 12 a2 fun v3 =>
  jn (fun (y7 : Int32) (h6 : HH) =>
    gfI h6 255 48 fun v8 =>
    jn (fun  (h11 : HH) =>
      ldI h11 280 138 v1 fun v12 =>
      stI h11 280 138 v1 (v12 + (1 : Int32)) fun h13 =>
      some ((), h13)) fun j9 =>
    if v8 = (3 : Int32) then
      (j9 h6)
    else
      (jn (fun  (h16 : HH) =>
        jn (fun (y20 : Int32) (h19 : HH) =>
          stI h19 278 138 v1 y20 fun h21 =>
          ldI h21 279 138 v1 fun v22 =>
          ldI h21 265 12 a2 fun v23 =>
          stI h21 279 138 v1 (mnI (99999 : Int32) (v22 + v23)) fun h24 =>
          some ((), h24)) fun j17 =>
        if y7 = 0 then
          (ldI h16 263 12 a2 fun v25 =>
          j17 v25 h16)
        else
          (ldI h16 264 12 a2 fun v26 =>
          j17 v26 h16)) fun j14 =>
      if y7 = 0 then
        (ldI h6 278 138 v1 fun v27 =>
        ldI h6 264 12 a2 fun v28 =>
        if v27 = v28 then
          (j14 h6)
        else
          (j9 h6))
      else
        (j14 h6))) fun j4 =>
  if v2 = v3 then
    (j4 (1 : Int32) h)
  else
    (j4 (0 : Int32) h)
def g_X11_does (a0 : Int32) (a1 : Int32) (a2 : Int32) (h : HH) : Option (Unit × HH) :=
  ldI h 267 40 a1 fun v1 =>
  ldI h 266 40 a1 fun v2 =>
  if v2 = 0 then
    (ldI h 269 40 a1 fun v3 =>
    bnd (g_X11_goesTo a0 v1 v3 a2 h) fun _ h4 => 
    some ((), h4))
  else
    (ldI h 266 40 a1 fun v6 =>
    if v6 = (1 : Int32) then
      (ldI h 269 40 a1 fun v7 =>
      bnd (g_X11_ropes a0 v1 v7 h) fun _ h8 => 
      some ((), h8))
    else
      (stI h 278 138 (((6 : Int32) * a0) + v1) (0 : Int32) fun h10 =>
      some ((), h10)))
def g_X11_isAhead (a0 : Int32) (a1 : Int32) (h : HH) : Option (Int32 × HH) :=
  ldI h 283 20 a0 fun v1 =>
  ldI h 283 20 a1 fun v2 =>
  if v1 = v2 then
    (ldI h 267 40 a0 fun v3 =>
    bnd (g_X11_forceOf v3 h) fun r5 h4 => 
    ldI h4 267 40 a1 fun v6 =>
    bnd (g_X11_forceOf v6 h4) fun r8 h7 => 
    if r5 = r8 then
      (if a0 < a1 then
        (some ((1 : Int32), h7))
      else
        (some ((0 : Int32), h7)))
    else
      (if r8 < r5 then
        (some ((1 : Int32), h7))
      else
        (some ((0 : Int32), h7))))
  else
    (ldI h 283 20 a0 fun v9 =>
    ldI h 283 20 a1 fun v10 =>
    if v9 < v10 then
      (some ((1 : Int32), h))
    else
      (some ((0 : Int32), h)))
def g_X11_laysOrder_L116 (K160 : Int32 → HH → Option (Unit × HH)) (c1 : Int32) (c2 : Int32) (c3 : Int32) : Nat → Int32 → HH → Option (Unit × HH)
  | 0, _, _ => none
  | n + 1, x4, h =>
    if 0 < x4 then
      (ldI h 284 20 (x4 - (1 : Int32)) fun v19 =>
      bnd (g_X11_isAhead c3 v19 h) fun r21 h20 => 
      if r21 = 0 then
        (K160 x4 h20)
      else
        (ldI h20 284 20 (x4 - (1 : Int32)) fun v22 =>
        stI h20 284 20 x4 v22 fun h23 =>
        vl (x4 + (-1 : Int32)) fun v24 =>
        g_X11_laysOrder_L116 K160 c1 c2 c3 n v24 h23))
    else
      (K160 x4 h)
def g_X11_laysOrder_L7 (c1 : Int32) (c2 : Int32) : Nat → Int32 → HH → Option (Unit × HH)
  | 0, _, _ => none
  | n + 1, x3, h =>
    ldI h 257 14 (3 : Int32) fun v2 =>
    if x3 < v2 then
      (ldI h 268 40 x3 fun v3 =>
      jn (fun  (h6 : HH) =>
        vl (x3 + (1 : Int32)) fun v7 =>
        g_X11_laysOrder_L7 c1 c2 n v7 h6) fun j4 =>
      if v3 = c2 then
        (gfI h 255 48 fun v8 =>
        jn (fun  (h11 : HH) =>
          ldI h11 266 40 x3 fun v12 =>
          jn (fun (y16 : Int32) (h15 : HH) =>
            stI h15 283 20 x3 y16 fun h17 =>
            gfI h17 255 52 fun v18 =>
            g_X11_laysOrder_L116 (fun (z26 : Int32) (h25 : HH) =>
              stI h25 284 20 z26 x3 fun h27 =>
              gfI h27 255 52 fun v28 =>
              pfI h27 255 52 (v28 + (1 : Int32)) fun h29 =>
              j4 h29) c1 c2 x3 1024 v18 h17) fun j13 =>
          if v12 = (2 : Int32) then
            (j13 (0 : Int32) h11)
          else
            (ldI h11 266 40 x3 fun v30 =>
            jn (fun  (h33 : HH) =>
              j13 (2 : Int32) h33) fun j31 =>
            if v30 = 0 then
              (ldI h11 269 40 x3 fun v34 =>
              ldI h11 267 40 x3 fun v35 =>
              ldI h11 278 138 (((6 : Int32) * c1) + v35) fun v36 =>
              if v34 < v36 then
                (j13 (1 : Int32) h11)
              else
                (j31 h11))
            else
              (j31 h11))) fun j9 =>
        if v8 = (2 : Int32) then
          (ldI h 267 40 x3 fun v37 =>
          gfI h 255 49 fun v38 =>
          if v37 = v38 then
            (j4 h)
          else
            (j9 h))
        else
          (j9 h))
      else
        (j4 h))
    else
      (some ((), h))
def g_X11_laysOrder (a0 : Int32) (a1 : Int32) (h : HH) : Option (Unit × HH) :=
  pfI h 255 52 (0 : Int32) fun h1 =>
  g_X11_laysOrder_L7 a0 a1 1024 (0 : Int32) h1
def g_X11_passes_L13 (K39 : HH → Option (Unit × HH)) (c1 : Int32) (c2 : Int32) : Nat → Int32 → HH → Option (Unit × HH)
  | 0, _, _ => none
  | n + 1, x3, h =>
    gfI h 255 52 fun v4 =>
    if x3 < v4 then
      (ldI h 284 20 x3 fun v5 =>
      bnd (g_X11_does c1 v5 c2 h) fun _ h6 => 
      vl (x3 + (1 : Int32)) fun v8 =>
      g_X11_passes_L13 K39 c1 c2 n v8 h6)
    else
      (K39 h)
def g_X11_passes (a0 : Int32) (a1 : Int32) (h : HH) : Option (Unit × HH) :=
  ldI h 276 23 a0 fun v1 =>
  bnd (g_X11_laysOrder a0 v1 h) fun _ h2 => 
  g_X11_passes_L13 (fun  (h9 : HH) =>
    ldI h9 276 23 a0 fun v10 =>
    stI h9 276 23 a0 (v10 + (1 : Int32)) fun h11 =>
    some ((), h11)) a0 a1 1024 (0 : Int32) h2
def g_X11_goesOn_L2 (c1 : Int32) : Nat → Int32 → HH → Option (Unit × HH)
  | 0, _, _ => none
  | n + 1, x2, h =>
    if x2 < c1 then
      (bnd (g_X11_passes (1 : Int32) (0 : Int32) h) fun _ h1 => 
      vl (x2 + (1 : Int32)) fun v3 =>
      g_X11_goesOn_L2 c1 n v3 h1)
    else
      (some ((), h))
def g_X11_goesOn (a0 : Int32) (h : HH) : Option (Unit × HH) :=
  g_X11_goesOn_L2 a0 1024 (0 : Int32) h
def g_X11_sumOf_L5 (b_a0 : Nat) (c2 : Int32) : Nat → Int32 → Int32 → HH → Option (Int32 × HH)
  | 0, _, _, _ => none
  | n + 1, x3, x4, h =>
    ldI h 257 14 (1 : Int32) fun v1 =>
    if x4 < v1 then
      (ldI h b_a0 138 (((6 : Int32) * c2) + x4) fun v2 =>
      vl ((x3 + v2)) fun v3 =>
      vl (x4 + (1 : Int32)) fun v4 =>
      g_X11_sumOf_L5 b_a0 c2 n v3 v4 h)
    else
      (some (x3, h))
def g_X11_sumOf (a0 : Nat) (a1 : Int32) (h : HH) : Option (Int32 × HH) :=
  ckH a0 (.inr (0, 138, 0)) (
  g_X11_sumOf_L5 a0 a1 1024 (0 : Int32) (0 : Int32) h)
def g_X11_entries_L4 (c1 : Int32) : Nat → Int32 → Int32 → HH → Option (Int32 × HH)
  | 0, _, _, _ => none
  | n + 1, x2, x3, h =>
    if x3 < (36 : Int32) then
      (ldI h 282 828 (((36 : Int32) * c1) + x3) fun v1 =>
      jn (fun (y5 : Int32) (h4 : HH) =>
        vl ((x2 + y5)) fun v6 =>
        vl (x3 + (1 : Int32)) fun v7 =>
        g_X11_entries_L4 c1 n v6 v7 h4) fun j2 =>
      if v1 = 0 then
        (j2 (0 : Int32) h)
      else
        (j2 (1 : Int32) h))
    else
      (some (x2, h))
def g_X11_entries (a0 : Int32) (h : HH) : Option (Int32 × HH) :=
  g_X11_entries_L4 a0 1024 (0 : Int32) (0 : Int32) h
def g_X11_person (a0 : Int32) (a1 : Int32) (h : HH) : Option (Int32 × HH) :=
  bnd (g_X11_isPerson a0 h) fun r2 h1 => 
  jn (fun (y6 : Int32) (h5 : HH) =>
    pfI h5 255 0 y6 fun h7 =>
    gfI h7 255 0 fun v8 =>
    if v8 = 0 then
      (if a1 = (0 : Int32) then
        (ldI h7 278 138 a0 fun v10 =>
        some (v10, h7))
      else
        (if a1 = (1 : Int32) then
          (ldI h7 261 12 a0 fun v12 =>
          some (v12, h7))
        else
          (if a1 = (2 : Int32) then
            (ldI h7 279 138 a0 fun v14 =>
            some (v14, h7))
          else
            (if a1 = (3 : Int32) then
              (ldI h7 280 138 a0 fun v16 =>
              some (v16, h7))
            else
              (ldI h7 281 138 a0 fun v17 =>
              some (v17, h7))))))
    else
      (some ((0 : Int32), h7))) fun j3 =>
  if r2 = 0 then
    (j3 (1 : Int32) h1)
  else
    (jn (fun  (h20 : HH) =>
      j3 (2 : Int32) h20) fun j18 =>
    if a1 < 0 then
      (j18 h1)
    else
      (if (4 : Int32) < a1 then
        (j18 h1)
      else
        (j3 (0 : Int32) h1)))
def g_X11_tally (a0 : Int32) (a1 : Int32) (h : HH) : Option (Int32 × HH) :=
  pfI h 255 0 (0 : Int32) fun h1 =>
  bnd (g_X11_areOf a0 a1 h1) fun r3 h2 => 
  if r3 = 0 then
    (some ((-2147483648 : Int32), h2))
  else
    (bnd (g_X11_tallyAt (0 : Int32) a0 a1 h2) fun r5 h4 => 
    some (r5, h4))
def g_X11_steep (a0 : Int32) (a1 : Int32) (h : HH) : Option (Int32 × HH) :=
  pfI h 255 0 (0 : Int32) fun h1 =>
  bnd (g_X11_areOf a0 a1 h1) fun r3 h2 => 
  if r3 = 0 then
    (some ((-2147483648 : Int32), h2))
  else
    (bnd (g_X11_steepOf (0 : Int32) a0 a1 h2) fun r5 h4 => 
    some (r5, h4))
def g_X11_outward (a0 : Int32) (h : HH) : Option (Int32 × HH) :=
  dvI a0 (6 : Int32) fun v1 =>
  rmI a0 (6 : Int32) fun v2 =>
  some ((((10 : Int32) * v1) + v2), h)
def g_X11_entry_L15 (K37 : Int32 → HH → Option (Int32 × HH)) : Nat → Int32 → Int32 → HH → Option (Int32 × HH)
  | 0, _, _, _ => none
  | n + 1, x2, x3, h =>
    if x3 < (36 : Int32) then
      (ldI h 282 828 x3 fun v2 =>
      jn (fun (u6 : Int32) (h5 : HH) =>
        vl (x3 + (1 : Int32)) fun v7 =>
        g_X11_entry_L15 K37 n u6 v7 h5) fun j3 =>
      if v2 = 0 then
        (j3 x2 h)
      else
        (if x2 = 0 then
          (K37 x3 h)
        else
          (vl (x2 + (-1 : Int32)) fun v8 =>
          j3 v8 h)))
    else
      (some ((-2 : Int32), h))
def g_X11_entry (a0 : Int32) (h : HH) : Option (Int32 × HH) :=
  pfI h 255 0 (0 : Int32) fun h1 =>
  if a0 < 0 then
    (some ((-1 : Int32), h1))
  else
    (g_X11_entry_L15 (fun (z10 : Int32) (h9 : HH) =>
      bnd (g_X11_outward z10 h9) fun r12 h11 => 
      some (r12, h11)) 1024 a0 (0 : Int32) h1)
def g_X11_beside_L47 (K69 : Int32 → HH → Option (Int32 × HH)) (c4 : Int32) : Nat → Int32 → HH → Option (Int32 × HH)
  | 0, _, _ => none
  | n + 1, x5, h =>
    if x5 < 0 then
      (some ((-2 : Int32), h))
    else
      (if x5 < (36 : Int32) then
        (ldI h 282 828 x5 fun v9 =>
        if v9 = 0 then
          (vl ((x5 + c4)) fun v10 =>
          g_X11_beside_L47 K69 c4 n v10 h)
        else
          (K69 x5 h))
      else
        (some ((-2 : Int32), h)))
def g_X11_beside (a0 : Int32) (a1 : Int32) (a2 : Int32) (h : HH) : Option (Int32 × HH) :=
  pfI h 255 0 (0 : Int32) fun h1 =>
  bnd (g_X11_areOf a0 a1 h1) fun r3 h2 => 
  if r3 = 0 then
    (some ((-1 : Int32), h2))
  else
    (if a2 < 0 then
      (some ((-1 : Int32), h2))
    else
      (if (1 : Int32) < a2 then
        (some ((-1 : Int32), h2))
      else
        (jn (fun (y7 : Int32) (h6 : HH) =>
          vl (((((6 : Int32) * a0) + a1) + y7)) fun v8 =>
          g_X11_beside_L47 (fun (z12 : Int32) (h11 : HH) =>
            bnd (g_X11_outward z12 h11) fun r14 h13 => 
            some (r14, h13)) y7 1024 v8 h6) fun j4 =>
        if a2 = 0 then
          (j4 (1 : Int32) h2)
        else
          (j4 (-1 : Int32) h2))))
def g_X11_isStronger (a0 : Int32) (a1 : Int32) (h : HH) : Option (Int32 × HH) :=
  ldI h 261 12 a0 fun v1 =>
  ldI h 261 12 a1 fun v2 =>
  if v1 = v2 then
    (if a0 < a1 then
      (some ((1 : Int32), h))
    else
      (some ((0 : Int32), h)))
  else
    (ldI h 261 12 a0 fun v3 =>
    ldI h 261 12 a1 fun v4 =>
    if v4 < v3 then
      (some ((1 : Int32), h))
    else
      (some ((0 : Int32), h)))
def g_X11_crowd_L50 (K104 : Int32 → HH → Option (Int32 × HH)) (c1 : Int32) (c2 : Int32) (c3 : Int32) : Nat → Int32 → Int32 → HH → Option (Int32 × HH)
  | 0, _, _, _ => none
  | n + 1, x4, x5, h =>
    ldI h 257 14 (1 : Int32) fun v10 =>
    if x5 < v10 then
      (ldI h 278 138 x5 fun v11 =>
      jn (fun (y15 : Int32) (h14 : HH) =>
        vl ((x4 + y15)) fun v16 =>
        vl (x5 + (1 : Int32)) fun v17 =>
        g_X11_crowd_L50 K104 c1 c2 c3 n v16 v17 h14) fun j12 =>
      jn (fun  (h20 : HH) =>
        j12 (0 : Int32) h20) fun j18 =>
      if v11 = c1 then
        (if x5 = c3 then
          (j18 h)
        else
          (bnd (g_X11_isStronger x5 c3 h) fun r22 h21 => 
          if r22 = 0 then
            (j18 h21)
          else
            (j12 (1 : Int32) h21)))
      else
        (j18 h))
    else
      (K104 x4 h)
def g_X11_crowd_L21 (c1 : Int32) (c2 : Int32) : Nat → Int32 → HH → Option (Int32 × HH)
  | 0, _, _ => none
  | n + 1, x3, h =>
    ldI h 257 14 (1 : Int32) fun v4 =>
    if x3 < v4 then
      (ldI h 278 138 x3 fun v5 =>
      jn (fun  (h8 : HH) =>
        vl (x3 + (1 : Int32)) fun v9 =>
        g_X11_crowd_L21 c1 c2 n v9 h8) fun j6 =>
      if v5 = c1 then
        (g_X11_crowd_L50 (fun (z24 : Int32) (h23 : HH) =>
          if z24 = c2 then
            (some (x3, h23))
          else
            (j6 h23)) c1 c2 x3 1024 (0 : Int32) (0 : Int32) h)
      else
        (j6 h))
    else
      (some ((-2 : Int32), h))
def g_X11_crowd (a0 : Int32) (a1 : Int32) (h : HH) : Option (Int32 × HH) :=
  pfI h 255 0 (0 : Int32) fun h1 =>
  bnd (g_X11_isFloor a0 h1) fun r3 h2 => 
  if r3 = 0 then
    (some ((-1 : Int32), h2))
  else
    (if a1 < 0 then
      (some ((-1 : Int32), h2))
    else
      (g_X11_crowd_L21 a0 a1 1024 (0 : Int32) h2))
def g_X11_isHour (a0 : Int32) (h : HH) : Option (Int32 × HH) :=
  if a0 < 0 then
    (some ((0 : Int32), h))
  else
    (if (99 : Int32) < a0 then
      (some ((0 : Int32), h))
    else
      (some ((1 : Int32), h)))
def g_X11_order (a0 : Int32) (a1 : Int32) (h : HH) : Option (Int32 × HH) :=
  pfI h 255 0 (0 : Int32) fun h1 =>
  bnd (g_X11_isHour a0 h1) fun r3 h2 => 
  if r3 = 0 then
    (some ((-1 : Int32), h2))
  else
    (if a1 < 0 then
      (some ((-1 : Int32), h2))
    else
      (bnd (g_X11_laysOrder (0 : Int32) a0 h2) fun _ h4 => 
      gfI h4 255 52 fun v6 =>
      if a1 < v6 then
        (ldI h4 284 20 a1 fun v7 =>
        some (v7, h4))
      else
        (some ((-2 : Int32), h4))))
def g_X11_soon_L19 (c1 : Int32) : Nat → Int32 → Int32 → HH → Option (Int32 × HH)
  | 0, _, _, _ => none
  | n + 1, x2, x3, h =>
    ldI h 257 14 (3 : Int32) fun v4 =>
    if x3 < v4 then
      (ldI h 268 40 x3 fun v5 =>
      jn (fun (u9 : Int32) (h8 : HH) =>
        vl (x3 + (1 : Int32)) fun v10 =>
        g_X11_soon_L19 c1 n u9 v10 h8) fun j6 =>
      if v5 < c1 then
        (j6 x2 h)
      else
        (jn (fun  (h13 : HH) =>
          ldI h13 268 40 x3 fun v14 =>
          j6 v14 h13) fun j11 =>
        if x2 < 0 then
          (j11 h)
        else
          (ldI h 268 40 x3 fun v15 =>
          if v15 < x2 then
            (j11 h)
          else
            (j6 x2 h))))
    else
      (some (x2, h))
def g_X11_soon (a0 : Int32) (h : HH) : Option (Int32 × HH) :=
  pfI h 255 0 (0 : Int32) fun h1 =>
  bnd (g_X11_isHour a0 h1) fun r3 h2 => 
  if r3 = 0 then
    (some ((-1 : Int32), h2))
  else
    (g_X11_soon_L19 a0 1024 (-2 : Int32) (0 : Int32) h2)
def g_X11_law (a0 : Int32) (a1 : Int32) (a2 : Int32) (h : HH) : Option (Int64 × HH) :=
  pfI h 255 0 (0 : Int32) fun h1 =>
  if a0 < 0 then
    (some ((-9223372036854775808 : Int64), h1))
  else
    (if (2 : Int32) < a0 then
      (some ((-9223372036854775808 : Int64), h1))
    else
      (bnd (g_X11_hasLaw a0 h1) fun r3 h2 => 
      if r3 = 0 then
        (some ((-9223372036854775808 : Int64), h2))
      else
        (bnd (g_X11_areOf a1 a2 h2) fun r5 h4 => 
        if r5 = 0 then
          (some ((-9223372036854775808 : Int64), h4))
        else
          (bnd (g_X11_calls (0 : Int32) a1 a2 h4) fun _ h6 => 
          bnd (g_X11_goes a0 h6) fun r9 h8 => 
          if r9 = 0 then
            (some ((-9223372036854775808 : Int64), h8))
          else
            (ldL h8 275 64 (0 : Int32) fun v10 =>
            some (v10, h8))))))
def g_X11_keepNow_L11 (K35 : HH → Option (Unit × HH)) : Nat → Int32 → HH → Option (Unit × HH)
  | 0, _, _ => none
  | n + 1, x1, h =>
    if x1 < (20 : Int32) then
      (bnd (g_X11_copies (((3 : Int32) + x1) - (1 : Int32)) ((3 : Int32) + x1) h) fun _ h10 => 
      vl (x1 + (1 : Int32)) fun v12 =>
      g_X11_keepNow_L11 K35 n v12 h10)
    else
      (K35 h)
def g_X11_keepNow (h : HH) : Option (Unit × HH) :=
  gfI h 255 44 fun v1 =>
  jn (fun  (h4 : HH) =>
    gfI h4 255 44 fun v5 =>
    bnd (g_X11_copies ((3 : Int32) + v5) (0 : Int32) h4) fun _ h6 => 
    gfI h6 255 44 fun v8 =>
    pfI h6 255 44 (v8 + (1 : Int32)) fun h9 =>
    some ((), h9)) fun j2 =>
  if v1 = (20 : Int32) then
    (g_X11_keepNow_L11 (fun  (h13 : HH) =>
      gfI h13 255 44 fun v14 =>
      pfI h13 255 44 (v14 - (1 : Int32)) fun h15 =>
      j2 h15) 1024 (1 : Int32) h)
  else
    (j2 h)
def g_X11_walk (a0 : Int32) (a1 : Int32) (h : HH) : Option (Int32 × HH) :=
  pfI h 255 0 (0 : Int32) fun h1 =>
  bnd (g_X11_isPerson a0 h1) fun r3 h2 => 
  if r3 = 0 then
    (some ((-1 : Int32), h2))
  else
    (bnd (g_X11_isFloor a1 h2) fun r5 h4 => 
    if r5 = 0 then
      (some ((-1 : Int32), h4))
    else
      (bnd (g_X11_keepNow h4) fun _ h6 => 
      bnd (g_X11_goesTo (0 : Int32) a0 a1 (0 : Int32) h6) fun _ h8 => 
      ldI h8 278 138 a0 fun v10 =>
      some (v10, h8)))
def g_X11_carry (a0 : Int32) (a1 : Int32) (h : HH) : Option (Int32 × HH) :=
  pfI h 255 0 (0 : Int32) fun h1 =>
  bnd (g_X11_isPerson a0 h1) fun r3 h2 => 
  if r3 = 0 then
    (some ((0 : Int32), h2))
  else
    (bnd (g_X11_isFloor a1 h2) fun r5 h4 => 
    if r5 = 0 then
      (some ((0 : Int32), h4))
    else
      (ldI h4 278 138 a0 fun v6 =>
      if v6 = a1 then
        (some ((0 : Int32), h4))
      else
        (bnd (g_X11_keepNow h4) fun _ h7 => 
        stI h7 278 138 a0 a1 fun h9 =>
        some ((1 : Int32), h9))))
def g_X11_right (a0 : Int32) (a1 : Int32) (h : HH) : Option (Int32 × HH) :=
  pfI h 255 0 (0 : Int32) fun h1 =>
  bnd (g_X11_areOf a0 a1 h1) fun r3 h2 => 
  if r3 = 0 then
    (some ((-2147483648 : Int32), h2))
  else
    (bnd (g_X11_tallyAt (0 : Int32) a0 a1 h2) fun r5 h4 => 
    if r5 = 0 then
      (some ((-2147483648 : Int32), h4))
    else
      (bnd (g_X11_keepNow h4) fun _ h6 => 
      bnd (g_X11_tallyAt (0 : Int32) a0 a1 h6) fun r9 h8 => 
      stI h8 282 828 (((6 : Int32) * a0) + a1) (0 : Int32) fun h10 =>
      some (r9, h10)))
def g_X11_go_L43 (K60 : HH → Option (Int32 × HH)) (c1 : Int32) : Nat → Int32 → HH → Option (Int32 × HH)
  | 0, _, _ => none
  | n + 1, x2, h =>
    if x2 < c1 then
      (bnd (g_X11_passes (0 : Int32) (1 : Int32) h) fun _ h6 => 
      vl (x2 + (1 : Int32)) fun v8 =>
      g_X11_go_L43 K60 c1 n v8 h6)
    else
      (K60 h)
def g_X11_go (a0 : Int32) (h : HH) : Option (Int32 × HH) :=
  pfI h 255 0 (0 : Int32) fun h1 =>
  if a0 < 0 then
    (some ((-1 : Int32), h1))
  else
    (if (200 : Int32) < a0 then
      (some ((-1 : Int32), h1))
    else
      (ldI h1 276 23 (0 : Int32) fun v2 =>
      if (9800 : Int32) < (v2 + a0) then
        (some ((-1 : Int32), h1))
      else
        (jn (fun  (h5 : HH) =>
          g_X11_go_L43 (fun  (h9 : HH) =>
            ldI h9 276 23 (0 : Int32) fun v10 =>
            some (v10, h9)) a0 1024 (0 : Int32) h5) fun j3 =>
        if 0 < a0 then
          (pfI h1 255 44 (0 : Int32) fun h11 =>
          j3 h11)
        else
          (j3 h1))))
def g_X11_ahead (a0 : Int32) (a1 : Int32) (a2 : Int32) (h : HH) : Option (Int32 × HH) :=
  pfI h 255 0 (0 : Int32) fun h1 =>
  if a0 < 0 then
    (some ((-1 : Int32), h1))
  else
    (if (200 : Int32) < a0 then
      (some ((-1 : Int32), h1))
    else
      (if a1 < 0 then
        (some ((-1 : Int32), h1))
      else
        (if (4 : Int32) < a1 then
          (some ((-1 : Int32), h1))
        else
          (jn (fun  (h4 : HH) =>
            bnd (g_X11_copies (1 : Int32) (0 : Int32) h4) fun _ h5 => 
            bnd (g_X11_goesOn a0 h5) fun _ h7 => 
            if a1 = (0 : Int32) then
              (ldI h7 278 138 ((6 : Int32) + a2) fun v10 =>
              some (v10, h7))
            else
              (if a1 = (1 : Int32) then
                (ldI h7 279 138 ((6 : Int32) + a2) fun v12 =>
                some (v12, h7))
              else
                (if a1 = (2 : Int32) then
                  (bnd (g_X11_sumOf 280 (1 : Int32) h7) fun r15 h14 => 
                  bnd (g_X11_sumOf 280 (0 : Int32) h14) fun r17 h16 => 
                  some ((r15 - r17), h16))
                else
                  (if a1 = (3 : Int32) then
                    (bnd (g_X11_sumOf 281 (1 : Int32) h7) fun r20 h19 => 
                    bnd (g_X11_sumOf 281 (0 : Int32) h19) fun r22 h21 => 
                    some ((r20 - r22), h21))
                  else
                    (bnd (g_X11_entries (1 : Int32) h7) fun r24 h23 => 
                    some (r24, h23)))))) fun j2 =>
          if a1 < (2 : Int32) then
            (bnd (g_X11_isPerson a2 h1) fun r26 h25 => 
            if r26 = 0 then
              (some ((-1 : Int32), h25))
            else
              (j2 h25))
          else
            (j2 h1)))))
def g_X11_there_L31 (c1 : Int32) (c2 : Int32) : Nat → Int32 → HH → Option (Int32 × HH)
  | 0, _, _ => none
  | n + 1, x3, h =>
    if (199 : Int32) < x3 then
      (some ((-2 : Int32), h))
    else
      (ldI h 278 138 ((6 : Int32) + c1) fun v8 =>
      if v8 = c2 then
        (some (x3, h))
      else
        (bnd (g_X11_passes (1 : Int32) (0 : Int32) h) fun _ h9 => 
        vl (x3 + (1 : Int32)) fun v11 =>
        g_X11_there_L31 c1 c2 n v11 h9))
def g_X11_there (a0 : Int32) (a1 : Int32) (h : HH) : Option (Int32 × HH) :=
  pfI h 255 0 (0 : Int32) fun h1 =>
  bnd (g_X11_isPerson a0 h1) fun r3 h2 => 
  if r3 = 0 then
    (some ((-1 : Int32), h2))
  else
    (bnd (g_X11_isFloor a1 h2) fun r5 h4 => 
    if r5 = 0 then
      (some ((-1 : Int32), h4))
    else
      (bnd (g_X11_copies (1 : Int32) (0 : Int32) h4) fun _ h6 => 
      g_X11_there_L31 a0 a1 1024 (0 : Int32) h6))
def g_X11_getsUp (a0 : Int32) (a1 : Int32) (h : HH) : Option (Int32 × HH) :=
  pfI h 255 48 (5 : Int32) fun h1 =>
  bnd (g_X11_goesTo (1 : Int32) a0 a1 (0 : Int32) h1) fun _ h2 => 
  pfI h2 255 48 (0 : Int32) fun h4 =>
  ldI h4 278 138 ((6 : Int32) + a0) fun v5 =>
  some (v5, h4)
def g_X11_highest (a0 : Int32) (h : HH) : Option (Int32 × HH) :=
  pfI h 255 0 (0 : Int32) fun h1 =>
  bnd (g_X11_isPerson a0 h1) fun r3 h2 => 
  if r3 = 0 then
    (some ((-1 : Int32), h2))
  else
    (bnd (g_X11_copies (1 : Int32) (0 : Int32) h2) fun _ h4 => 
    ldI h4 257 14 (0 : Int32) fun v6 =>
    bnd (g_X11_getsUp a0 v6 h4) fun r8 h7 => 
    some (r8, h7))
def g_X11_climbs_L35 (c1 : Int32) (c2 : Int32) : Nat → Int32 → HH → Option (Int32 × HH)
  | 0, _, _ => none
  | n + 1, x3, h =>
    if x3 < (99 : Int32) then
      (stI h 278 138 ((6 : Int32) + c1) (0 : Int32) fun h8 =>
      bnd (g_X11_getsUp c1 c2 h8) fun r10 h9 => 
      if r10 = c2 then
        (vl (x3 + (1 : Int32)) fun v11 =>
        g_X11_climbs_L35 c1 c2 n v11 h9)
      else
        (some (x3, h9)))
    else
      (some ((99 : Int32), h))
def g_X11_climbs (a0 : Int32) (a1 : Int32) (h : HH) : Option (Int32 × HH) :=
  pfI h 255 0 (0 : Int32) fun h1 =>
  bnd (g_X11_isPerson a0 h1) fun r3 h2 => 
  if r3 = 0 then
    (some ((-1 : Int32), h2))
  else
    (bnd (g_X11_isFloor a1 h2) fun r5 h4 => 
    if r5 = 0 then
      (some ((-1 : Int32), h4))
    else
      (if a1 = 0 then
        (some ((-1 : Int32), h4))
      else
        (bnd (g_X11_copies (1 : Int32) (0 : Int32) h4) fun _ h6 => 
        g_X11_climbs_L35 a0 a1 1024 (0 : Int32) h6)))
def g_X11_level_L19 (c1 : Int32) : Nat → Int32 → Int32 → HH → Option (Int32 × HH)
  | 0, _, _, _ => none
  | n + 1, x2, x3, h =>
    ldI h 257 14 (0 : Int32) fun v4 =>
    if x3 < v4 then
      (bnd (g_X11_tallyAt (0 : Int32) c1 x3 h) fun r6 h5 => 
      vl ((x2 + (mxI (0 : Int32) r6))) fun v7 =>
      vl (x3 + (1 : Int32)) fun v8 =>
      g_X11_level_L19 c1 n v7 v8 h5)
    else
      (some (x2, h))
def g_X11_level (a0 : Int32) (h : HH) : Option (Int32 × HH) :=
  pfI h 255 0 (0 : Int32) fun h1 =>
  bnd (g_X11_isPerson a0 h1) fun r3 h2 => 
  if r3 = 0 then
    (some ((-1 : Int32), h2))
  else
    (g_X11_level_L19 a0 1024 (0 : Int32) (0 : Int32) h2)
def g_X11_ease_L18 (c1 : Int32) (c2 : Int32) : Nat → Int32 → HH → Option (Int32 × HH)
  | 0, _, _ => none
  | n + 1, x3, h =>
    if (200 : Int32) < x3 then
      (some ((-2 : Int32), h))
    else
      (bnd (g_X11_tallyAt (0 : Int32) c1 c2 h) fun r5 h4 => 
      bnd (g_X11_steepWith (0 : Int32) c1 c2 (r5 - x3) h4) fun r7 h6 => 
      ldI h6 261 12 c1 fun v8 =>
      if v8 < r7 then
        (vl (x3 + (1 : Int32)) fun v9 =>
        g_X11_ease_L18 c1 c2 n v9 h6)
      else
        (some (x3, h6)))
def g_X11_ease (a0 : Int32) (a1 : Int32) (h : HH) : Option (Int32 × HH) :=
  pfI h 255 0 (0 : Int32) fun h1 =>
  bnd (g_X11_areOf a0 a1 h1) fun r3 h2 => 
  if r3 = 0 then
    (some ((-1 : Int32), h2))
  else
    (g_X11_ease_L18 a0 a1 1024 (0 : Int32) h2)
def g_X11_betters (a0 : Int32) (a1 : Int32) (a2 : Int32) (a3 : Int32) (h : HH) : Option (Int32 × HH) :=
  vl ((((7 : Int32) * a0) + a1)) fun v1 =>
  vl ((((7 : Int32) * a0) + a2)) fun v2 =>
  ldI h 285 14 v1 fun v3 =>
  if v3 = (999999 : Int32) then
    (some ((0 : Int32), h))
  else
    (ldI h 285 14 v1 fun v4 =>
    vl ((v4 + a3)) fun v5 =>
    ldI h 285 14 v2 fun v6 =>
    if v6 < v5 then
      (some ((0 : Int32), h))
    else
      (ldI h 285 14 v2 fun v7 =>
      jn (fun  (h10 : HH) =>
        stI h10 285 14 v2 v5 fun h11 =>
        ldI h11 286 14 v1 fun v12 =>
        stI h11 286 14 v2 (v12 + (1 : Int32)) fun h13 =>
        some ((1 : Int32), h13)) fun j8 =>
      if v5 = v7 then
        (ldI h 286 14 v1 fun v14 =>
        ldI h 286 14 v2 fun v15 =>
        if (v14 + (1 : Int32)) < v15 then
          (j8 h)
        else
          (some ((0 : Int32), h)))
      else
        (j8 h)))
def g_X11_laysWays_L2 (K40 : HH → Option (Unit × HH)) (c1 : Int32) (c2 : Int32) : Nat → Int32 → HH → Option (Unit × HH)
  | 0, _, _ => none
  | n + 1, x3, h =>
    if x3 < (7 : Int32) then
      (stI h 285 14 (((7 : Int32) * c1) + x3) (999999 : Int32) fun h1 =>
      stI h1 286 14 (((7 : Int32) * c1) + x3) (0 : Int32) fun h2 =>
      vl (x3 + (1 : Int32)) fun v3 =>
      g_X11_laysWays_L2 K40 c1 c2 n v3 h2)
    else
      (K40 h)
def g_X11_laysWays_L59 (K106 : HH → Option (Unit × HH)) (c1 : Int32) (c2 : Int32) : Nat → Int32 → HH → Option (Unit × HH)
  | 0, _, _ => none
  | n + 1, x3, h =>
    ldI h 257 14 (0 : Int32) fun v7 =>
    if x3 < v7 then
      (bnd (g_X11_canClimb (0 : Int32) c2 x3 h) fun r9 h8 => 
      jn (fun (y13 : Int32) (h12 : HH) =>
        stI h12 287 6 x3 y13 fun h14 =>
        vl (x3 + (1 : Int32)) fun v15 =>
        g_X11_laysWays_L59 K106 c1 c2 n v15 h14) fun j10 =>
      if r9 = 0 then
        (j10 (-1 : Int32) h8)
      else
        (bnd (g_X11_steepOf (0 : Int32) c2 x3 h8) fun r17 h16 => 
        j10 (mxI (0 : Int32) r17) h16))
    else
      (K106 h)
def g_X11_laysWays_L117 (K181 : Int32 → HH → Option (Unit × HH)) (c1 : Int32) : Nat → Int32 → Int32 → HH → Option (Unit × HH)
  | 0, _, _, _ => none
  | n + 1, x3, x4, h =>
    ldI h 257 14 (0 : Int32) fun v19 =>
    if x4 < v19 then
      (ldI h 287 6 x4 fun v20 =>
      jn (fun (u24 : Int32) (h23 : HH) =>
        bnd (g_X11_betters c1 (x4 + (1 : Int32)) x4 (0 : Int32) h23) fun r26 h25 => 
        vl ((u24 ||| r26)) fun v27 =>
        vl (x4 + (1 : Int32)) fun v28 =>
        g_X11_laysWays_L117 K181 c1 n v27 v28 h25) fun j21 =>
      if v20 = (-1 : Int32) then
        (j21 x3 h)
      else
        (ldI h 287 6 x4 fun v29 =>
        bnd (g_X11_betters c1 x4 (x4 + (1 : Int32)) v29 h) fun r31 h30 => 
        vl ((x3 ||| r31)) fun v32 =>
        j21 v32 h30))
    else
      (K181 x3 h)
def g_X11_laysWays_L184 (K259 : Int32 → HH → Option (Unit × HH)) (c1 : Int32) : Nat → Int32 → Int32 → HH → Option (Unit × HH)
  | 0, _, _, _ => none
  | n + 1, x3, x4, h =>
    ldI h 257 14 (2 : Int32) fun v35 =>
    if x4 < v35 then
      (ldI h 263 12 x4 fun v36 =>
      ldI h 264 12 x4 fun v37 =>
      ldI h 265 12 x4 fun v38 =>
      bnd (g_X11_betters c1 v36 v37 v38 h) fun r40 h39 => 
      vl ((x3 ||| r40)) fun v41 =>
      ldI h39 264 12 x4 fun v42 =>
      ldI h39 263 12 x4 fun v43 =>
      ldI h39 265 12 x4 fun v44 =>
      bnd (g_X11_betters c1 v42 v43 v44 h39) fun r46 h45 => 
      vl ((v41 ||| r46)) fun v47 =>
      vl (x4 + (1 : Int32)) fun v48 =>
      g_X11_laysWays_L184 K259 c1 n v47 v48 h45)
    else
      (K259 x3 h)
def g_X11_laysWays_L108 (c1 : Int32) : Nat → Int32 → HH → Option (Unit × HH)
  | 0, _, _ => none
  | n + 1, x3, h =>
    if x3 = 0 then
      (some ((), h))
    else
      (g_X11_laysWays_L117 (fun (z34 : Int32) (h33 : HH) =>
        g_X11_laysWays_L184 (fun (z50 : Int32) (h49 : HH) =>
          g_X11_laysWays_L108 c1 n z50 h49) c1 1024 z34 (0 : Int32) h33) c1 1024 (0 : Int32) (0 : Int32) h)
def g_X11_laysWays (a0 : Int32) (a1 : Int32) (h : HH) : Option (Unit × HH) :=
  g_X11_laysWays_L2 (fun  (h4 : HH) =>
    ldI h4 278 138 a1 fun v5 =>
    stI h4 285 14 (((7 : Int32) * a0) + v5) (0 : Int32) fun h6 =>
    g_X11_laysWays_L59 (fun  (h18 : HH) =>
      g_X11_laysWays_L108 a0 1024 (1 : Int32) h18) a0 a1 1024 (0 : Int32) h6) a0 a1 1024 (0 : Int32) h
def g_X11_way (a0 : Int32) (a1 : Int32) (a2 : Int32) (h : HH) : Option (Int32 × HH) :=
  pfI h 255 0 (0 : Int32) fun h1 =>
  bnd (g_X11_isPerson a0 h1) fun r3 h2 => 
  if r3 = 0 then
    (some ((-1 : Int32), h2))
  else
    (bnd (g_X11_isFloor a1 h2) fun r5 h4 => 
    if r5 = 0 then
      (some ((-1 : Int32), h4))
    else
      (if a2 < 0 then
        (some ((-1 : Int32), h4))
      else
        (if (1 : Int32) < a2 then
          (some ((-1 : Int32), h4))
        else
          (bnd (g_X11_laysWays (0 : Int32) a0 h4) fun _ h6 => 
          ldI h6 285 14 a1 fun v8 =>
          if v8 = (999999 : Int32) then
            (some ((-2 : Int32), h6))
          else
            (if a2 = 0 then
              (ldI h6 285 14 a1 fun v9 =>
              some (v9, h6))
            else
              (ldI h6 286 14 a1 fun v10 =>
              some (v10, h6)))))))
def g_X11_areTwo (a0 : Int32) (a1 : Int32) (h : HH) : Option (Int32 × HH) :=
  bnd (g_X11_isPerson a0 h) fun r2 h1 => 
  if r2 = 0 then
    (some ((0 : Int32), h1))
  else
    (bnd (g_X11_isPerson a1 h1) fun r4 h3 => 
    if r4 = 0 then
      (some ((0 : Int32), h3))
    else
      (if a0 = a1 then
        (some ((0 : Int32), h3))
      else
        (some ((1 : Int32), h3))))
def g_X11_meet_L49 (K116 : Int32 → Int32 → HH → Option (Int32 × HH)) (c3 : Int32) : Nat → Int32 → Int32 → Int32 → HH → Option (Int32 × HH)
  | 0, _, _, _, _ => none
  | n + 1, x4, x5, x6, h =>
    ldI h 257 14 (0 : Int32) fun v8 =>
    if v8 < x6 then
      (K116 x4 x5 h)
    else
      (ldI h 285 14 x6 fun v9 =>
      ldI h 285 14 ((7 : Int32) + x6) fun v10 =>
      jn (fun (u14 : Int32) (u15 : Int32) (h13 : HH) =>
        vl (x6 + (1 : Int32)) fun v16 =>
        g_X11_meet_L49 K116 c3 n u14 u15 v16 h13) fun j11 =>
      if (v9 + v10) < x5 then
        (ldI h 285 14 x6 fun v17 =>
        ldI h 285 14 ((7 : Int32) + x6) fun v18 =>
        vl ((v17 + v18)) fun v19 =>
        j11 x6 v19 h)
      else
        (j11 x4 x5 h))
def g_X11_meet (a0 : Int32) (a1 : Int32) (a2 : Int32) (h : HH) : Option (Int32 × HH) :=
  pfI h 255 0 (0 : Int32) fun h1 =>
  bnd (g_X11_areTwo a0 a1 h1) fun r3 h2 => 
  if r3 = 0 then
    (some ((-1 : Int32), h2))
  else
    (if a2 < 0 then
      (some ((-1 : Int32), h2))
    else
      (if (1 : Int32) < a2 then
        (some ((-1 : Int32), h2))
      else
        (bnd (g_X11_laysWays (0 : Int32) a0 h2) fun _ h4 => 
        bnd (g_X11_laysWays (1 : Int32) a1 h4) fun _ h6 => 
        g_X11_meet_L49 (fun (z21 : Int32) (z22 : Int32) (h20 : HH) =>
          if z21 < 0 then
            (some (z21, h20))
          else
            (if a2 = 0 then
              (some (z21, h20))
            else
              (some (z22, h20)))) a2 1024 (-2 : Int32) (999999 : Int32) (0 : Int32) h6)))
def g_X11_steepest_L20 (c1 : Int32) : Nat → Int32 → Int32 → HH → Option (Int32 × HH)
  | 0, _, _, _ => none
  | n + 1, x2, x3, h =>
    ldI h 257 14 (0 : Int32) fun v4 =>
    if x3 < v4 then
      (jn (fun (u8 : Int32) (h7 : HH) =>
        vl (x3 + (1 : Int32)) fun v9 =>
        g_X11_steepest_L20 c1 n u8 v9 h7) fun j5 =>
      jn (fun  (h12 : HH) =>
        j5 x3 h12) fun j10 =>
      if x2 < 0 then
        (j10 h)
      else
        (bnd (g_X11_steepOf (0 : Int32) c1 x3 h) fun r14 h13 => 
        bnd (g_X11_steepOf (0 : Int32) c1 x2 h13) fun r16 h15 => 
        if r16 < r14 then
          (j10 h15)
        else
          (j5 x2 h15)))
    else
      (some (x2, h))
def g_X11_steepest (a0 : Int32) (h : HH) : Option (Int32 × HH) :=
  pfI h 255 0 (0 : Int32) fun h1 =>
  bnd (g_X11_isPerson a0 h1) fun r3 h2 => 
  if r3 = 0 then
    (some ((-1 : Int32), h2))
  else
    (g_X11_steepest_L20 a0 1024 (-2 : Int32) (0 : Int32) h2)
def g_X11_wall_L24 (K67 : Int32 → HH → Option (Int32 × HH)) (c1 : Int32) (c2 : Int32) : Nat → Int32 → Int32 → HH → Option (Int32 × HH)
  | 0, _, _, _ => none
  | n + 1, x3, x4, h =>
    ldI h 257 14 (1 : Int32) fun v3 =>
    if x4 < v3 then
      (bnd (g_X11_steepOf (0 : Int32) x4 c2 h) fun r5 h4 => 
      ldI h4 261 12 x4 fun v6 =>
      jn (fun (y10 : Int32) (h9 : HH) =>
        vl ((x3 &&& y10)) fun v11 =>
        vl (x4 + (1 : Int32)) fun v12 =>
        g_X11_wall_L24 K67 c1 c2 n v11 v12 h9) fun j7 =>
      if v6 < r5 then
        (j7 (1 : Int32) h4)
      else
        (j7 (0 : Int32) h4))
    else
      (K67 x3 h)
def g_X11_wall_L9 : Nat → Int32 → Int32 → HH → Option (Int32 × HH)
  | 0, _, _, _ => none
  | n + 1, x1, x2, h =>
    ldI h 257 14 (0 : Int32) fun v2 =>
    if x2 < v2 then
      (g_X11_wall_L24 (fun (z14 : Int32) (h13 : HH) =>
        jn (fun (y18 : Int32) (h17 : HH) =>
          vl ((x1 ||| y18)) fun v19 =>
          vl (x2 + (1 : Int32)) fun v20 =>
          g_X11_wall_L9  n v19 v20 h17) fun j15 =>
        if z14 = 0 then
          (j15 (0 : Int32) h13)
        else
          (j15 ((1 : Int32) <<< (x2 &&& 31)) h13)) x1 x2 1024 (1 : Int32) (0 : Int32) h)
    else
      (some (x1, h))
def g_X11_wall (h : HH) : Option (Int32 × HH) :=
  pfI h 255 0 (0 : Int32) fun h1 =>
  g_X11_wall_L9  1024 (0 : Int32) (0 : Int32) h1
def g_X11_hasOf (a0 : Int32) (a1 : Int32) (a2 : Int32) (a3 : Int32) (h : HH) : Option (Int32 × HH) :=
  if a2 = (1 : Int32) then
    (if a3 = 0 then
      (some ((2 : Int32), h))
    else
      (some ((1 : Int32), h)))
  else
    (ldI h 261 12 a0 fun v1 =>
    bnd (g_X11_steepOf (0 : Int32) a0 a1 h) fun r3 h2 => 
    vl ((v1 - r3)) fun v4 =>
    if a3 = 0 then
      (dvI v4 (2 : Int32) fun v5 =>
      some (v5, h2))
    else
      (some (v4, h2)))
def g_X11_isRest (a0 : Int32) (a1 : Int32) (a2 : Int32) (a3 : Int32) (h : HH) : Option (Int32 × HH) :=
  dvI a3 (2 : Int32) fun v1 =>
  rmI a3 (2 : Int32) fun v2 =>
  bnd (g_X11_hasOf a0 a2 ((1 : Int32) - v1) v2 h) fun r4 h3 => 
  bnd (g_X11_hasOf a0 a2 v1 v2 h3) fun r6 h5 => 
  if r6 < r4 then
    (some ((0 : Int32), h5))
  else
    (bnd (g_X11_hasOf a1 a2 ((1 : Int32) - v2) v1 h5) fun r8 h7 => 
    bnd (g_X11_hasOf a1 a2 v2 v1 h7) fun r10 h9 => 
    if r10 < r8 then
      (some ((0 : Int32), h9))
    else
      (some ((1 : Int32), h9)))
def g_X11_restOf_L6 (K56 : Int32 → HH → Option (Int32 × HH)) (K34 : Int32 → HH → Option (Int32 × HH)) (c1 : Int32) (c2 : Int32) (c3 : Int32) (c4 : Int32) : Nat → Int32 → Int32 → HH → Option (Int32 × HH)
  | 0, _, _, _ => none
  | n + 1, x5, x6, h =>
    if x6 < (4 : Int32) then
      (bnd (g_X11_isRest c1 c2 c3 x6 h) fun r2 h1 => 
      jn (fun (u6 : Int32) (h5 : HH) =>
        vl (x6 + (1 : Int32)) fun v7 =>
        g_X11_restOf_L6 K56 K34 c1 c2 c3 c4 n u6 v7 h5) fun j3 =>
      if r2 = 0 then
        (j3 x5 h1)
      else
        (if x5 = c4 then
          (K34 x6 h1)
        else
          (vl (x5 + (1 : Int32)) fun v8 =>
          j3 v8 h1)))
    else
      (K56 x5 h)
def g_X11_restOf (a0 : Int32) (a1 : Int32) (a2 : Int32) (a3 : Int32) (h : HH) : Option (Int32 × HH) :=
  g_X11_restOf_L6 (fun (z10 : Int32) (h9 : HH) =>
    if a3 = (-1 : Int32) then
      (some (z10, h9))
    else
      (some ((-2 : Int32), h9))) (fun (z12 : Int32) (h11 : HH) =>
    dvI z12 (2 : Int32) fun v13 =>
    rmI z12 (2 : Int32) fun v14 =>
    some ((((10 : Int32) * v13) + v14), h11)) a0 a1 a2 a3 1024 (0 : Int32) (0 : Int32) h
def g_X11_rests (a0 : Int32) (a1 : Int32) (a2 : Int32) (h : HH) : Option (Int32 × HH) :=
  pfI h 255 0 (0 : Int32) fun h1 =>
  bnd (g_X11_areTwo a0 a1 h1) fun r3 h2 => 
  if r3 = 0 then
    (some ((-1 : Int32), h2))
  else
    (bnd (g_X11_isFlight a2 h2) fun r5 h4 => 
    if r5 = 0 then
      (some ((-1 : Int32), h4))
    else
      (bnd (g_X11_restOf a0 a1 a2 (-1 : Int32) h4) fun r7 h6 => 
      some (r7, h6)))
def g_X11_rest (a0 : Int32) (a1 : Int32) (a2 : Int32) (a3 : Int32) (h : HH) : Option (Int32 × HH) :=
  pfI h 255 0 (0 : Int32) fun h1 =>
  bnd (g_X11_areTwo a0 a1 h1) fun r3 h2 => 
  if r3 = 0 then
    (some ((-1 : Int32), h2))
  else
    (bnd (g_X11_isFlight a2 h2) fun r5 h4 => 
    if r5 = 0 then
      (some ((-1 : Int32), h4))
    else
      (if a3 < 0 then
        (some ((-1 : Int32), h4))
      else
        (bnd (g_X11_restOf a0 a1 a2 a3 h4) fun r7 h6 => 
        some (r7, h6))))
def g_X11_sure_L36 (K70 : Int64 → Int64 → HH → Option (Int64 × HH)) (c1 : Int32) (c2 : Int32) : Nat → Int64 → Int64 → Int32 → HH → Option (Int64 × HH)
  | 0, _, _, _, _ => none
  | n + 1, x3, x5, x7, h =>
    if x7 < c1 then
      (ldI h 257 14 (4 : Int32) fun v2 =>
      vl ((x3 * ((100 : Int64) - (Int32.toInt64 v2)))) fun v3 =>
      vl ((x5 * (100 : Int64))) fun v4 =>
      vl (x7 + (1 : Int32)) fun v5 =>
      g_X11_sure_L36 K70 c1 c2 n v3 v4 v5 h)
    else
      (K70 x3 x5 h)
def g_X11_sure_L77 (K102 : Int64 → HH → Option (Int64 × HH)) (c2 : Int32) (c3 : Int64) (c5 : Int64) : Nat → Int64 → Int64 → HH → Option (Int64 × HH)
  | 0, _, _, _ => none
  | n + 1, x7, x9, h =>
    if (lg_cmp x9 (0 : Int64)) = 0 then
      (K102 x7 h)
    else
      (rmL x7 x9 fun v9 =>
      g_X11_sure_L77 K102 c2 c3 c5 n x9 v9 h)
def g_X11_sure (a0 : Int32) (a1 : Int32) (h : HH) : Option (Int64 × HH) :=
  pfI h 255 0 (0 : Int32) fun h1 =>
  if a0 < 0 then
    (some ((-1 : Int64), h1))
  else
    (if (6 : Int32) < a0 then
      (some ((-1 : Int64), h1))
    else
      (if a1 < 0 then
        (some ((-1 : Int64), h1))
      else
        (if (1 : Int32) < a1 then
          (some ((-1 : Int64), h1))
        else
          (g_X11_sure_L36 (fun (z7 : Int64) (z8 : Int64) (h6 : HH) =>
            g_X11_sure_L77 (fun (z11 : Int64) (h10 : HH) =>
              if a1 = 0 then
                (dvL z7 z11 fun v12 =>
                some (v12, h10))
              else
                (dvL z8 z11 fun v13 =>
                some (v13, h10))) a1 z7 z8 1024 z7 z8 h6) a0 a1 1024 (1 : Int64) (1 : Int64) (0 : Int32) h1))))
def g_X11_note (a0 : Int32) (a1 : Int32) (a2 : Int32) (a3 : Int32) (h : HH) : Option (Int32 × HH) :=
  pfI h 255 0 (0 : Int32) fun h1 =>
  if a0 < (1 : Int32) then
    (some ((-1 : Int32), h1))
  else
    (if (40 : Int32) < a0 then
      (some ((-1 : Int32), h1))
    else
      (bnd (g_X11_isPerson a1 h1) fun r3 h2 => 
      if r3 = 0 then
        (some ((-1 : Int32), h2))
      else
        (bnd (g_X11_isFloor a2 h2) fun r5 h4 => 
        if r5 = 0 then
          (some ((-1 : Int32), h4))
        else
          (gfI h4 255 56 fun v6 =>
          if v6 = (24 : Int32) then
            (some ((-1 : Int32), h4))
          else
            (gfI h4 255 56 fun v7 =>
            stI h4 288 24 v7 a0 fun h8 =>
            gfI h8 255 56 fun v9 =>
            stI h8 289 24 v9 a1 fun h10 =>
            gfI h10 255 56 fun v11 =>
            stI h10 290 24 v11 a2 fun h12 =>
            gfI h12 255 56 fun v13 =>
            stI h12 291 24 v13 (vp_nar .boolean a3) fun h14 =>
            gfI h14 255 56 fun v15 =>
            stI h14 292 24 v15 (-1 : Int32) fun h16 =>
            gfI h16 255 56 fun v17 =>
            pfI h16 255 56 (v17 + (1 : Int32)) fun h18 =>
            gfI h18 255 56 fun v19 =>
            some ((v19 - (1 : Int32)), h18))))))
def g_X11_strike (a0 : Int32) (h : HH) : Option (Int32 × HH) :=
  pfI h 255 0 (0 : Int32) fun h1 =>
  if a0 < 0 then
    (some ((-1 : Int32), h1))
  else
    (gfI h1 255 56 fun v2 =>
    if a0 < v2 then
      (gfI h1 255 56 fun v3 =>
      if v3 = (24 : Int32) then
        (some ((-1 : Int32), h1))
      else
        (gfI h1 255 56 fun v4 =>
        stI h1 292 24 v4 a0 fun h5 =>
        gfI h5 255 56 fun v6 =>
        pfI h5 255 56 (v6 + (1 : Int32)) fun h7 =>
        gfI h7 255 56 fun v8 =>
        some ((v8 - (1 : Int32)), h7)))
    else
      (some ((-1 : Int32), h1)))
def g_X11_known (a0 : Int32) (h : HH) : Option (Int32 × HH) :=
  pfI h 255 0 (0 : Int32) fun h1 =>
  if a0 < (-1 : Int32) then
    (some ((0 : Int32), h1))
  else
    (gfI h1 255 56 fun v2 =>
    if v2 < a0 then
      (some ((0 : Int32), h1))
    else
      (pfI h1 255 57 a0 fun h3 =>
      some ((1 : Int32), h3)))
def g_X11_knownMany (h : HH) : Option (Int32 × HH) :=
  gfI h 255 57 fun v1 =>
  if v1 = (-1 : Int32) then
    (gfI h 255 56 fun v2 =>
    some (v2, h))
  else
    (gfI h 255 57 fun v3 =>
    some (v3, h))
def g_X11_isSo_L2 (c1 : Int32) : Nat → Int32 → HH → Option (Int32 × HH)
  | 0, _, _ => none
  | n + 1, x2, h =>
    bnd (g_X11_knownMany h) fun r2 h1 => 
    if x2 < r2 then
      (ldI h1 293 24 x2 fun v3 =>
      jn (fun  (h6 : HH) =>
        vl (x2 + (1 : Int32)) fun v7 =>
        g_X11_isSo_L2 c1 n v7 h6) fun j4 =>
      if v3 = 0 then
        (ldI h1 292 24 x2 fun v8 =>
        if v8 = (-1 : Int32) then
          (ldI h1 288 24 x2 fun v9 =>
          if v9 = c1 then
            (ldI h1 289 24 x2 fun v10 =>
            ldI h1 278 138 ((6 : Int32) + v10) fun v11 =>
            ldI h1 290 24 x2 fun v12 =>
            jn (fun (y16 : Int32) (h15 : HH) =>
              ldI h15 291 24 x2 fun v17 =>
              if y16 = v17 then
                (j4 h15)
              else
                (some ((0 : Int32), h15))) fun j13 =>
            if v11 = v12 then
              (j13 (1 : Int32) h1)
            else
              (j13 (0 : Int32) h1))
          else
            (j4 h1))
        else
          (j4 h1))
      else
        (j4 h1))
    else
      (some ((1 : Int32), h1))
def g_X11_isSo (a0 : Int32) (h : HH) : Option (Int32 × HH) :=
  g_X11_isSo_L2 a0 1024 (0 : Int32) h
def g_X11_fitsHad_L7 (c1 : Int32) : Nat → Int32 → HH → Option (Int32 × HH)
  | 0, _, _ => none
  | n + 1, x2, h =>
    if c1 < x2 then
      (some ((1 : Int32), h))
    else
      (bnd (g_X11_passes (1 : Int32) (0 : Int32) h) fun _ h3 => 
      bnd (g_X11_isSo x2 h3) fun r6 h5 => 
      if r6 = 0 then
        (some ((0 : Int32), h5))
      else
        (vl (x2 + (1 : Int32)) fun v7 =>
        g_X11_fitsHad_L7 c1 n v7 h5))
def g_X11_fitsHad (a0 : Int32) (h : HH) : Option (Int32 × HH) :=
  bnd (g_X11_starts (1 : Int32) h) fun _ h1 => 
  g_X11_fitsHad_L7 a0 1024 (1 : Int32) h1
def g_X11_hadsOf_L5 (K28 : HH → Option (Int32 × HH)) (c1 : Int32) (c2 : Int32) : Nat → Int32 → HH → Option (Int32 × HH)
  | 0, _, _ => none
  | n + 1, x4, h =>
    bnd (g_X11_knownMany h) fun r2 h1 => 
    if x4 < r2 then
      (stI h1 293 24 x4 (vp_nar .boolean (0 : Int32)) fun h3 =>
      vl (x4 + (1 : Int32)) fun v4 =>
      g_X11_hadsOf_L5 K28 c1 c2 n v4 h3)
    else
      (K28 h1)
def g_X11_hadsOf_L36 (K81 : HH → Option (Int32 × HH)) (c1 : Int32) (c2 : Int32) : Nat → Int32 → HH → Option (Int32 × HH)
  | 0, _, _ => none
  | n + 1, x4, h =>
    if x4 < 0 then
      (K81 h)
    else
      (ldI h 293 24 x4 fun v9 =>
      jn (fun  (h12 : HH) =>
        vl (x4 + (-1 : Int32)) fun v13 =>
        g_X11_hadsOf_L36 K81 c1 c2 n v13 h12) fun j10 =>
      if v9 = 0 then
        (ldI h 292 24 x4 fun v14 =>
        if v14 = (-1 : Int32) then
          (j10 h)
        else
          (ldI h 292 24 x4 fun v15 =>
          stI h 293 24 v15 (vp_nar .boolean (1 : Int32)) fun h16 =>
          j10 h16))
      else
        (j10 h))
def g_X11_hadsOf_L84 (K132 : Int32 → HH → Option (Int32 × HH)) (c1 : Int32) (c2 : Int32) : Nat → Int32 → Int32 → HH → Option (Int32 × HH)
  | 0, _, _, _ => none
  | n + 1, x3, x4, h =>
    bnd (g_X11_knownMany h) fun r19 h18 => 
    if x4 < r19 then
      (ldI h18 293 24 x4 fun v20 =>
      jn (fun (u24 : Int32) (h23 : HH) =>
        vl (x4 + (1 : Int32)) fun v25 =>
        g_X11_hadsOf_L84 K132 c1 c2 n u24 v25 h23) fun j21 =>
      if v20 = 0 then
        (ldI h18 292 24 x4 fun v26 =>
        if v26 = (-1 : Int32) then
          (ldI h18 288 24 x4 fun v27 =>
          vl ((mxI x3 v27)) fun v28 =>
          j21 v28 h18)
        else
          (j21 x3 h18))
      else
        (j21 x3 h18))
    else
      (K132 x3 h18)
def g_X11_hadsOf_L148 (K191 : Int32 → HH → Option (Int32 × HH)) (c3 : Int32) : Nat → Int32 → Int32 → HH → Option (Int32 × HH)
  | 0, _, _, _ => none
  | n + 1, x4, x5, h =>
    if x5 < (19 : Int32) then
      (pfI h 255 47 (x5 - (9 : Int32)) fun h33 =>
      bnd (g_X11_fitsHad c3 h33) fun r35 h34 => 
      jn (fun (y39 : Int32) (h38 : HH) =>
        vl ((x4 ||| y39)) fun v40 =>
        vl (x5 + (1 : Int32)) fun v41 =>
        g_X11_hadsOf_L148 K191 c3 n v40 v41 h38) fun j36 =>
      if r35 = 0 then
        (j36 (0 : Int32) h34)
      else
        (j36 ((1 : Int32) <<< (x5 &&& 31)) h34))
    else
      (K191 x4 h)
def g_X11_hadsOf (a0 : Int32) (a1 : Int32) (h : HH) : Option (Int32 × HH) :=
  g_X11_hadsOf_L5 (fun  (h5 : HH) =>
    bnd (g_X11_knownMany h5) fun r7 h6 => 
    vl ((r7 - (1 : Int32))) fun v8 =>
    g_X11_hadsOf_L36 (fun  (h17 : HH) =>
      g_X11_hadsOf_L84 (fun (z30 : Int32) (h29 : HH) =>
        pfI h29 255 45 a0 fun h31 =>
        pfI h31 255 46 a1 fun h32 =>
        g_X11_hadsOf_L148 (fun (z43 : Int32) (h42 : HH) =>
          pfI h42 255 45 (-1 : Int32) fun h44 =>
          some (z43, h44)) z30 1024 (0 : Int32) (0 : Int32) h32) a0 a1 1024 (0 : Int32) (0 : Int32) h17) a0 a1 1024 v8 h6) a0 a1 1024 (0 : Int32) h
def g_X11_hads (a0 : Int32) (a1 : Int32) (h : HH) : Option (Int32 × HH) :=
  pfI h 255 0 (0 : Int32) fun h1 =>
  bnd (g_X11_areOf a0 a1 h1) fun r3 h2 => 
  if r3 = 0 then
    (some ((-1 : Int32), h2))
  else
    (bnd (g_X11_hadsOf a0 a1 h2) fun r5 h4 => 
    some (r5, h4))
def g_X11_worstAt_L18 (K78 : Int32 → HH → Option (Int32 × HH)) (c1 : Int32) (c2 : Int32) (c3 : Int32) (c4 : Int32) : Nat → Int32 → Int32 → HH → Option (Int32 × HH)
  | 0, _, _, _ => none
  | n + 1, x5, x6, h =>
    if x6 < (19 : Int32) then
      (jn (fun (y4 : Int32) (h3 : HH) =>
        vl ((x5 + y4)) fun v5 =>
        vl (x6 + (1 : Int32)) fun v6 =>
        g_X11_worstAt_L18 K78 c1 c2 c3 c4 n v5 v6 h3) fun j1 =>
      jn (fun  (h9 : HH) =>
        j1 (0 : Int32) h9) fun j7 =>
      if ((c1 >>> (x6 &&& 31)) &&& (1 : Int32)) = (1 : Int32) then
        (ldI h 294 779 (((41 : Int32) * x6) + c2) fun v10 =>
        ldI h 294 779 (((41 : Int32) * c4) + c2) fun v11 =>
        if v10 = v11 then
          (j1 (1 : Int32) h)
        else
          (j7 h))
      else
        (j7 h))
    else
      (K78 x5 h)
def g_X11_worstAt_L5 (c1 : Int32) (c2 : Int32) : Nat → Int32 → Int32 → HH → Option (Int32 × HH)
  | 0, _, _, _ => none
  | n + 1, x3, x4, h =>
    if x4 < (19 : Int32) then
      (g_X11_worstAt_L18 (fun (z13 : Int32) (h12 : HH) =>
        jn (fun (u17 : Int32) (h16 : HH) =>
          vl (x4 + (1 : Int32)) fun v18 =>
          g_X11_worstAt_L5 c1 c2 n u17 v18 h16) fun j14 =>
        if ((c1 >>> (x4 &&& 31)) &&& (1 : Int32)) = (1 : Int32) then
          (vl ((mxI x3 z13)) fun v19 =>
          j14 v19 h12)
        else
          (j14 x3 h12)) c1 c2 x3 x4 1024 (0 : Int32) (0 : Int32) h)
    else
      (some (x3, h))
def g_X11_worstAt (a0 : Int32) (a1 : Int32) (h : HH) : Option (Int32 × HH) :=
  g_X11_worstAt_L5 a0 a1 1024 (0 : Int32) (0 : Int32) h
def g_X11_ask_L65 (K106 : HH → Option (Int32 × HH)) (c1 : Int32) (c3 : Int32) (c4 : Int32) (c5 : Int32) : Nat → Int32 → HH → Option (Int32 × HH)
  | 0, _, _ => none
  | n + 1, x6, h =>
    if (40 : Int32) < x6 then
      (K106 h)
    else
      (bnd (g_X11_passes (1 : Int32) (0 : Int32) h) fun _ h10 => 
      ldI h10 278 138 ((6 : Int32) + c1) fun v12 =>
      stI h10 294 779 (((41 : Int32) * c5) + x6) v12 fun h13 =>
      vl (x6 + (1 : Int32)) fun v14 =>
      g_X11_ask_L65 K106 c1 c3 c4 c5 n v14 h13)
def g_X11_ask_L41 (K112 : HH → Option (Int32 × HH)) (c1 : Int32) (c3 : Int32) (c4 : Int32) : Nat → Int32 → HH → Option (Int32 × HH)
  | 0, _, _ => none
  | n + 1, x5, h =>
    if x5 < (19 : Int32) then
      (pfI h 255 47 (x5 - (9 : Int32)) fun h7 =>
      bnd (g_X11_starts (1 : Int32) h7) fun _ h8 => 
      g_X11_ask_L65 (fun  (h15 : HH) =>
        vl (x5 + (1 : Int32)) fun v16 =>
        g_X11_ask_L41 K112 c1 c3 c4 n v16 h15) c1 c3 c4 x5 1024 (1 : Int32) h8)
    else
      (K112 h)
def g_X11_ask_L123 (K159 : Int32 → HH → Option (Int32 × HH)) (c3 : Int32) (c4 : Int32) : Nat → Int32 → Int32 → HH → Option (Int32 × HH)
  | 0, _, _, _ => none
  | n + 1, x5, x6, h =>
    if (40 : Int32) < x6 then
      (K159 x5 h)
    else
      (bnd (g_X11_worstAt c4 x6 h) fun r20 h19 => 
      bnd (g_X11_worstAt c4 x5 h19) fun r22 h21 => 
      jn (fun (u26 : Int32) (h25 : HH) =>
        vl (x6 + (1 : Int32)) fun v27 =>
        g_X11_ask_L123 K159 c3 c4 n u26 v27 h25) fun j23 =>
      if r20 < r22 then
        (j23 x6 h21)
      else
        (j23 x5 h21))
def g_X11_ask (a0 : Int32) (a1 : Int32) (a2 : Int32) (h : HH) : Option (Int32 × HH) :=
  pfI h 255 0 (0 : Int32) fun h1 =>
  bnd (g_X11_areOf a0 a1 h1) fun r3 h2 => 
  if r3 = 0 then
    (some ((-1 : Int32), h2))
  else
    (if a2 < 0 then
      (some ((-1 : Int32), h2))
    else
      (if (1 : Int32) < a2 then
        (some ((-1 : Int32), h2))
      else
        (bnd (g_X11_hadsOf a0 a1 h2) fun r5 h4 => 
        pfI h4 255 45 a0 fun h6 =>
        g_X11_ask_L41 (fun  (h17 : HH) =>
          pfI h17 255 45 (-1 : Int32) fun h18 =>
          g_X11_ask_L123 (fun (z29 : Int32) (h28 : HH) =>
            if a2 = 0 then
              (some (z29, h28))
            else
              (bnd (g_X11_worstAt r5 z29 h28) fun r31 h30 => 
              some (r31, h30))) a2 r5 1024 (1 : Int32) (2 : Int32) h18) a0 a2 r5 1024 (0 : Int32) h6)))
def g_X11_chance_L72 (K90 : HH → Option (Int32 × HH)) (c2 : Int32) (c3 : Int32) (c4 : Int32) (c6 : Int32) (c7 : Int32) : Nat → Int32 → HH → Option (Int32 × HH)
  | 0, _, _ => none
  | n + 1, x8, h =>
    if x8 < c2 then
      (bnd (g_X11_passes (1 : Int32) (1 : Int32) h) fun _ h9 => 
      vl (x8 + (1 : Int32)) fun v11 =>
      g_X11_chance_L72 K90 c2 c3 c4 c6 c7 n v11 h9)
    else
      (K90 h)
def g_X11_chance_L48 (c2 : Int32) (c3 : Int32) (c4 : Int32) : Nat → Int32 → Int32 → Int32 → HH → Option (Int32 × HH)
  | 0, _, _, _, _ => none
  | n + 1, x5, x6, x7, h =>
    if x7 < (10 : Int32) then
      (bnd (g_X11_copies (1 : Int32) (0 : Int32) h) fun _ h6 => 
      stI h6 277 23 (1 : Int32) x5 fun h8 =>
      g_X11_chance_L72 (fun  (h12 : HH) =>
        ldI h12 277 23 (1 : Int32) fun v13 =>
        ldI h12 278 138 ((6 : Int32) + c3) fun v14 =>
        jn (fun (y18 : Int32) (h17 : HH) =>
          vl ((x6 + y18)) fun v19 =>
          vl (x7 + (1 : Int32)) fun v20 =>
          g_X11_chance_L48 c2 c3 c4 n v13 v19 v20 h17) fun j15 =>
        if v14 = c4 then
          (j15 (1 : Int32) h12)
        else
          (j15 (0 : Int32) h12)) c2 c3 c4 x6 x7 1024 (0 : Int32) h8)
    else
      (some (x6, h))
def g_X11_chance (a0 : Int32) (a1 : Int32) (a2 : Int32) (a3 : Int32) (h : HH) : Option (Int32 × HH) :=
  pfI h 255 0 (0 : Int32) fun h1 =>
  if a0 < 0 then
    (some ((-1 : Int32), h1))
  else
    (if a1 < (1 : Int32) then
      (some ((-1 : Int32), h1))
    else
      (if (99 : Int32) < a1 then
        (some ((-1 : Int32), h1))
      else
        (bnd (g_X11_isPerson a2 h1) fun r3 h2 => 
        if r3 = 0 then
          (some ((-1 : Int32), h2))
        else
          (bnd (g_X11_isFloor a3 h2) fun r5 h4 => 
          if r5 = 0 then
            (some ((-1 : Int32), h4))
          else
            (g_X11_chance_L48 a1 a2 a3 1024 a0 (0 : Int32) (0 : Int32) h4)))))
def g_X11_tried_L65 (K94 : HH → Option (Int32 × HH)) (c1 : Int32) (c2 : Int32) (c3 : Int32) : Nat → Int32 → HH → Option (Int32 × HH)
  | 0, _, _ => none
  | n + 1, x5, h =>
    if x5 < (36 : Int32) then
      (if c1 = (1 : Int32) then
        (stI h 282 828 ((36 : Int32) + x5) (0 : Int32) fun h8 =>
        vl (x5 + (1 : Int32)) fun v9 =>
        g_X11_tried_L65 K94 c1 c2 c3 n v9 h8)
      else
        (K94 h))
    else
      (K94 h)
def g_X11_tried (a0 : Int32) (a1 : Int32) (a2 : Int32) (h : HH) : Option (Int32 × HH) :=
  pfI h 255 0 (0 : Int32) fun h1 =>
  jn (fun (y5 : Int32) (h4 : HH) =>
    if y5 = 0 then
      (some ((-1 : Int32), h4))
    else
      (if a2 < 0 then
        (some ((-1 : Int32), h4))
      else
        (if (200 : Int32) < a2 then
          (some ((-1 : Int32), h4))
        else
          (bnd (g_X11_copies (1 : Int32) (0 : Int32) h4) fun _ h6 => 
          g_X11_tried_L65 (fun  (h10 : HH) =>
            jn (fun (y14 : Int32) (h13 : HH) =>
              pfI h13 255 48 y14 fun h15 =>
              pfI h15 255 49 a1 fun h16 =>
              bnd (g_X11_goesOn a2 h16) fun _ h17 => 
              pfI h17 255 48 (0 : Int32) fun h19 =>
              pfI h19 255 49 (-1 : Int32) fun h20 =>
              bnd (g_X11_sumOf 278 (1 : Int32) h20) fun r22 h21 => 
              some (r22, h21)) fun j11 =>
            if a0 = 0 then
              (j11 (5 : Int32) h10)
            else
              (j11 a0 h10)) a0 a1 a2 1024 (0 : Int32) h6)))) fun j2 =>
  if a0 = (2 : Int32) then
    (bnd (g_X11_isPerson a1 h1) fun r24 h23 => 
    j2 r24 h23)
  else
    (jn (fun  (h27 : HH) =>
      j2 (0 : Int32) h27) fun j25 =>
    if a0 < 0 then
      (j25 h1)
    else
      (if (4 : Int32) < a0 then
        (j25 h1)
      else
        (if a1 = 0 then
          (j2 (1 : Int32) h1)
        else
          (j25 h1))))
def g_X11_undo (h : HH) : Option (Int32 × HH) :=
  pfI h 255 0 (0 : Int32) fun h1 =>
  gfI h1 255 44 fun v2 =>
  if v2 = 0 then
    (some ((-1 : Int32), h1))
  else
    (gfI h1 255 44 fun v3 =>
    pfI h1 255 44 (v3 - (1 : Int32)) fun h4 =>
    gfI h4 255 44 fun v5 =>
    bnd (g_X11_copies (0 : Int32) ((3 : Int32) + v5) h4) fun _ h6 => 
    gfI h6 255 44 fun v8 =>
    some (v8, h6))
def g_X11_keep (h : HH) : Option (Int32 × HH) :=
  pfI h 255 0 (0 : Int32) fun h1 =>
  bnd (g_X11_copies (2 : Int32) (0 : Int32) h1) fun _ h2 => 
  pfI h2 255 43 (1 : Int32) fun h4 =>
  ldI h4 276 23 (0 : Int32) fun v5 =>
  some (v5, h4)
def g_X11_back (h : HH) : Option (Int32 × HH) :=
  pfI h 255 0 (0 : Int32) fun h1 =>
  gfI h1 255 43 fun v2 =>
  if v2 = 0 then
    (some ((-1 : Int32), h1))
  else
    (bnd (g_X11_copies (0 : Int32) (2 : Int32) h1) fun _ h3 => 
    pfI h3 255 44 (0 : Int32) fun h5 =>
    ldI h5 276 23 (0 : Int32) fun v6 =>
    some (v6, h5))
def g_X11_count (a0 : Int32) (h : HH) : Option (Int32 × HH) :=
  pfI h 255 0 (0 : Int32) fun h1 =>
  if a0 = (0 : Int32) then
    (ldI h1 257 14 (0 : Int32) fun v3 =>
    some (v3, h1))
  else
    (if a0 = (1 : Int32) then
      (ldI h1 257 14 (1 : Int32) fun v5 =>
      some (v5, h1))
    else
      (if a0 = (2 : Int32) then
        (ldI h1 257 14 (2 : Int32) fun v7 =>
        some (v7, h1))
      else
        (if a0 = (3 : Int32) then
          (ldI h1 257 14 (3 : Int32) fun v9 =>
          some (v9, h1))
        else
          (if a0 = (4 : Int32) then
            (ldI h1 257 14 (6 : Int32) fun v11 =>
            some (v11, h1))
          else
            (if a0 = (5 : Int32) then
              (ldI h1 276 23 (0 : Int32) fun v13 =>
              some (v13, h1))
            else
              (if a0 = (6 : Int32) then
                (bnd (g_X11_entries (0 : Int32) h1) fun r16 h15 => 
                some (r16, h15))
              else
                (if a0 = (7 : Int32) then
                  (bnd (g_X11_sumOf 279 (0 : Int32) h1) fun r19 h18 => 
                  some (r19, h18))
                else
                  (if a0 = (8 : Int32) then
                    (bnd (g_X11_sumOf 280 (0 : Int32) h1) fun r22 h21 => 
                    some (r22, h21))
                  else
                    (if a0 = (9 : Int32) then
                      (bnd (g_X11_sumOf 281 (0 : Int32) h1) fun r25 h24 => 
                      some (r25, h24))
                    else
                      (if a0 = (10 : Int32) then
                        (bnd (g_X11_sumOf 278 (0 : Int32) h1) fun r28 h27 => 
                        some (r28, h27))
                      else
                        (if a0 = (11 : Int32) then
                          (gfI h1 255 56 fun v30 =>
                          some (v30, h1))
                        else
                          (if a0 = (12 : Int32) then
                            (bnd (g_X11_knownMany h1) fun r33 h32 => 
                            some (r33, h32))
                          else
                            (if a0 = (13 : Int32) then
                              (gfI h1 255 44 fun v35 =>
                              some (v35, h1))
                            else
                              (some ((-1 : Int32), h1)))))))))))))))
