set_option maxRecDepth 100000 in
theorem e_M_first_38 {sc : bm_Sc} {Q : bm_O → bm_S → Prop} {x0 : Int} {ι : bm_S}
  (h : (if x0 = (9 : Int) then
      bW sc 208 56 [bi x0] [] ι Q
    else
      (if x0 = (10 : Int) then
        bW sc 208 56 [bi x0] [] ι Q
      else
        (if x0 = (13 : Int) then
          bW sc 208 56 [bi x0] [] ι Q
        else
          Q (.inl (some (bi 0))) ι)))) :
  bW sc 208 38 [bi x0] [] ι Q := bm_snd 208 [38, 56, 161, 227] 11 h
set_option maxRecDepth 100000 in
theorem e_M_first_56 {sc : bm_Sc} {Q : bm_O → bm_S → Prop} {v0 : bm_V} {ι : bm_S}
  (h : Q (.inl (some (bi 4))) ι) :
  bW sc 208 56 [v0] [] ι Q := bm_snd 208 [38, 56, 161, 227] 3 h
set_option maxRecDepth 100000 in
theorem e_M_first_161 {sc : bm_Sc} {Q : bm_O → bm_S → Prop} {v0 : bm_V} {ι : bm_S}
  (h : Q (.inl (some (bi 16))) ι) :
  bW sc 208 161 [v0] [] ι Q := bm_snd 208 [38, 56, 161, 227] 2 h
set_option maxRecDepth 100000 in
theorem e_M_first_227 {sc : bm_Sc} {Q : bm_O → bm_S → Prop} {v0 : bm_V} {ι : bm_S}
  (h : Q (.inl (some (bi 32))) ι) :
  bW sc 208 227 [v0] [] ι Q := bm_snd 208 [38, 56, 161, 227] 2 h
-- M_second
set_option maxRecDepth 100000 in
theorem e_M_second_0 {sc : bm_Sc} {Q : bm_O → bm_S → Prop} {x0 : Int} {ι : bm_S}
  (h : (if x0 < (32 : Int) then
      Q (.inl (some (bi 0))) ι
    else
      (if (if (127 : Int) ≤ x0 ∧ x0 ≤ (191 : Int) then (1 : Int) else 0) = (0 : Int) then
        (if (if (48 : Int) ≤ x0 ∧ x0 ≤ (57 : Int) then (1 : Int) else 0) = (0 : Int) then
          (if (if (65 : Int) ≤ x0 ∧ x0 ≤ (90 : Int) then (1 : Int) else 0) = (0 : Int) then
            (if x0 < (192 : Int) then
              (if (if (97 : Int) ≤ x0 ∧ x0 ≤ (122 : Int) then (1 : Int) else 0) = (0 : Int) then
                Q (.inl (some (bi 1))) ι
              else
                Q (.inl (some (bi 3))) ι)
            else
              Q (.inl (some (bi 2))) ι)
          else
            Q (.inl (some (bi 2))) ι)
        else
          Q (.inl (some (bi 2))) ι)
      else
        Q (.inl (some (bi 0))) ι))) :
  bC sc 209 [bi x0] ι Q := bm_snd 209 [] 33 h
-- M_sizeOf
set_option maxRecDepth 100000 in
theorem e_M_sizeOf_0 {sc : bm_Sc} {Q : bm_O → bm_S → Prop} {x0 : Int} {ι : bm_S}
  (h : (if x0 = (0 : Int) then
      Q (.inl (some (bi 0))) ι
    else
      (if (16 : Int) ≤ x0 then
        (if (64 : Int) ≤ x0 then
          (if (128 : Int) ≤ x0 then
            (if (192 : Int) ≤ x0 then
              (if (240 : Int) ≤ x0 then
                (if (255 : Int) ≤ x0 then
                  Q (.inl (some (bi 7))) ι
                else
                  Q (.inl (some (bi 6))) ι)
              else
                Q (.inl (some (bi 5))) ι)
            else
              Q (.inl (some (bi 4))) ι)
          else
            Q (.inl (some (bi 3))) ι)
        else
          Q (.inl (some (bi 2))) ι)
      else
        Q (.inl (some (bi 1))) ι))) :
  bC sc 210 [bi x0] ι Q := bm_snd 210 [] 23 h
-- M_back
set_option maxRecDepth 100000 in
theorem e_M_back_0 {sc : bm_Sc} {Q : bm_O → bm_S → Prop} {x1 : Int} {ι : bm_S}
  (h : (if ι 13 0 6 < x1 then
      Q (.inl (some (bi 0))) ι
    else
      (bm_rg (ι 13 0 6 - x1)) ∧
      (0 ≤ ι 13 0 6 - x1 ∧ ι 13 0 6 - x1 < (9000 : Int)) ∧
      Q (.inl (some (bi (ι 67 0 (ι 13 0 6 - x1) % 256)))) ι)) :
  bC sc 211 [br 13 0, bi x1] ι Q := bm_snd 211 [] 15 h
-- M_context
set_option maxRecDepth 100000 in
theorem e_M_context_0 {sc : bm_Sc} {Q : bm_O → bm_S → Prop}  {ι : bm_S}
  (h : bC sc 211 [br 13 0, bi 1] ι (bk1 (fun r1 ι1 => 
      bC sc 211 [br 13 0, bi 2] ι1 (bk1 (fun r2 ι2 => 
        (0 ≤ (0 : Int) ∧ (0 : Int) < (3 : Int)) ∧
        (0 ≤ ι2 79 0 0 ∧ ι2 79 0 0 < (12 : Int)) ∧
        (if ι2 82 0 (ι2 79 0 0) = 0 then
          Q (.inl (some (bi (r1 % 64)))) ι2
        else
          (if ι2 82 0 (ι2 79 0 0) = 1 then
            (0 ≤ r1 ∧ 0 < (4 : Int)) ∧
            Q (.inl (some (bi (r1 / 4)))) ι2
          else
            (if ι2 82 0 (ι2 79 0 0) = 2 then
              bC sc 208 [bi r1] ι2 (bk1 (fun r5 ι5 => 
                bC sc 209 [bi r2] ι5 (bk1 (fun r6 ι6 => 
                  Q (.inl (some (bi (bm_or r5 r6)))) ι6) (bq Q))) (bq Q))
            else
              bC sc 210 [bi r1] ι2 (bk1 (fun r3 ι3 => 
                (bm_rg (8 * r3)) ∧
                bC sc 210 [bi r2] ι3 (bk1 (fun r4 ι4 => 
                  (bm_rg (8 * r3 + r4)) ∧
                  Q (.inl (some (bi (8 * r3 + r4)))) ι4) (bq Q))) (bq Q)))))) (bq Q))) (bq Q))) :
  bC sc 212 [br 13 0] ι Q := bm_snd 212 [] 24 h
-- M_putOut
set_option maxRecDepth 100000 in
theorem e_M_putOut_0 {sc : bm_Sc} {Q : bm_O → bm_S → Prop} {x1 : Int} {ι : bm_S}
  (h : (0 ≤ ι 13 0 6 ∧ ι 13 0 6 < (9000 : Int)) ∧
    (bm_rg (ι 13 0 6 + 1)) ∧
    Q (.inl none) (up (up ι 67 0 (ι 13 0 6) (bm_byte (bm_byte x1))) 13 0 6 (ι 13 0 6 + 1))) :
  bC sc 213 [br 13 0, bi x1] ι Q := bm_snd 213 [] 14 h
-- M_readLiteral
set_option maxRecDepth 100000 in
theorem e_M_readLiteral_0 {sc : bm_Sc} {Q : bm_O → bm_S → Prop}  {ι : bm_S}
  (h : bC sc 195 [br 13 0, bi 0] ι (bk0 (fun ι1 => 
      (0 ≤ (0 : Int) ∧ (0 : Int) < (3 : Int)) ∧
      (bm_rg (64 * ι1 79 0 0)) ∧
      bC sc 212 [br 13 0] ι1 (bk1 (fun r2 ι2 => 
        (bm_rg (64 * ι1 79 0 0 + r2)) ∧
        (0 ≤ 64 * ι1 79 0 0 + r2 ∧ 64 * ι1 79 0 0 + r2 < (768 : Int)) ∧
        (bm_rg (256 * ι2 83 0 (64 * ι1 79 0 0 + r2))) ∧
        (bm_rg (120 + 256 * ι2 83 0 (64 * ι1 79 0 0 + r2))) ∧
        bC sc 176 [br 13 0, bi (120 + 256 * ι2 83 0 (64 * ι1 79 0 0 + r2)), bi 256] ι2 (bk1 (fun r3 ι3 => 
          bC sc 213 [br 13 0, bi r3] ι3 (bk0 (fun ι4 => 
            Q (.inl none) ι4) (bq Q))) (bq Q))) (bq Q))) (bq Q))) :
  bC sc 214 [br 13 0] ι Q := bm_snd 214 [] 27 h
-- M_distanceOf
set_option maxRecDepth 100000 in
theorem e_M_distanceOf_0 {sc : bm_Sc} {Q : bm_O → bm_S → Prop} {x1 : Int} {ι : bm_S}
  (h : (if (4 : Int) ≤ x1 then
      (if (16 : Int) ≤ x1 then
        (bm_rg (16 + ι 13 0 23)) ∧
        (if 16 + ι 13 0 23 ≤ x1 then
          (bm_rg (x1 - ι 13 0 23)) ∧
          (bm_rg (x1 - ι 13 0 23 - 16)) ∧
          (bm_rg (ι 13 0 22 + 1)) ∧
          (0 ≤ ι 13 0 22 + 1 ∧ ι 13 0 22 + 1 < 32) ∧
          (bm_rg (1 + (x1 - ι 13 0 23 - 16) / bm_p2 (ι 13 0 22 + 1))) ∧
          bC sc 174 [br 13 0, bi (1 + (x1 - ι 13 0 23 - 16) / bm_p2 (ι 13 0 22 + 1))] ι (bk1 (fun r1 ι1 => 
            (0 ≤ ι1 13 0 22 ∧ ι1 13 0 22 < 32) ∧
            (0 ≤ (x1 - ι 13 0 23 - 16) / bm_p2 (ι1 13 0 22) ∧ 0 < (2 : Int)) ∧
            (bm_rg (2 + (x1 - ι 13 0 23 - 16) / bm_p2 (ι1 13 0 22) % 2)) ∧
            ((0 ≤ 1 + (x1 - ι 13 0 23 - 16) / bm_p2 (ι 13 0 22 + 1) ∧ 1 + (x1 - ι 13 0 23 - 16) / bm_p2 (ι 13 0 22 + 1) < 32) ∧ bm_rg ((2 + (x1 - ι 13 0 23 - 16) / bm_p2 (ι1 13 0 22) % 2) * bm_p2 (1 + (x1 - ι 13 0 23 - 16) / bm_p2 (ι 13 0 22 + 1)))) ∧
            (bm_rg ((2 + (x1 - ι 13 0 23 - 16) / bm_p2 (ι1 13 0 22) % 2) * bm_p2 (1 + (x1 - ι 13 0 23 - 16) / bm_p2 (ι 13 0 22 + 1)) - 4)) ∧
            (bm_rg ((2 + (x1 - ι 13 0 23 - 16) / bm_p2 (ι1 13 0 22) % 2) * bm_p2 (1 + (x1 - ι 13 0 23 - 16) / bm_p2 (ι 13 0 22 + 1)) - 4 + r1)) ∧
            ((0 ≤ ι1 13 0 22 ∧ ι1 13 0 22 < 32) ∧ bm_rg (((2 + (x1 - ι 13 0 23 - 16) / bm_p2 (ι1 13 0 22) % 2) * bm_p2 (1 + (x1 - ι 13 0 23 - 16) / bm_p2 (ι 13 0 22 + 1)) - 4 + r1) * bm_p2 (ι1 13 0 22))) ∧
            ((0 ≤ ι1 13 0 22 ∧ ι1 13 0 22 < 32) ∧ bm_rg (1 * bm_p2 (ι1 13 0 22))) ∧
            (bm_rg (1 * bm_p2 (ι1 13 0 22) - 1)) ∧
            (bm_rg (((2 + (x1 - ι 13 0 23 - 16) / bm_p2 (ι1 13 0 22) % 2) * bm_p2 (1 + (x1 - ι 13 0 23 - 16) / bm_p2 (ι 13 0 22 + 1)) - 4 + r1) * bm_p2 (ι1 13 0 22) + bm_band (x1 - ι 13 0 23 - 16) (1 * bm_p2 (ι1 13 0 22) - 1))) ∧
            (bm_rg (((2 + (x1 - ι 13 0 23 - 16) / bm_p2 (ι1 13 0 22) % 2) * bm_p2 (1 + (x1 - ι 13 0 23 - 16) / bm_p2 (ι 13 0 22 + 1)) - 4 + r1) * bm_p2 (ι1 13 0 22) + bm_band (x1 - ι 13 0 23 - 16) (1 * bm_p2 (ι1 13 0 22) - 1) + ι1 13 0 23)) ∧
            (bm_rg (((2 + (x1 - ι 13 0 23 - 16) / bm_p2 (ι1 13 0 22) % 2) * bm_p2 (1 + (x1 - ι 13 0 23 - 16) / bm_p2 (ι 13 0 22 + 1)) - 4 + r1) * bm_p2 (ι1 13 0 22) + bm_band (x1 - ι 13 0 23 - 16) (1 * bm_p2 (ι1 13 0 22) - 1) + ι1 13 0 23 + 1)) ∧
            Q (.inl (some (bi (((2 + (x1 - ι 13 0 23 - 16) / bm_p2 (ι1 13 0 22) % 2) * bm_p2 (1 + (x1 - ι 13 0 23 - 16) / bm_p2 (ι 13 0 22 + 1)) - 4 + r1) * bm_p2 (ι1 13 0 22) + bm_band (x1 - ι 13 0 23 - 16) (1 * bm_p2 (ι1 13 0 22) - 1) + ι1 13 0 23 + 1)))) ι1) (bq Q))
        else
          (bm_rg (x1 - 15)) ∧
          Q (.inl (some (bi (x1 - 15)))) ι)
      else
        (if (10 : Int) ≤ x1 then
          (bm_rg (x1 - 10)) ∧
          (0 ≤ x1 - 10 ∧ 0 < (2 : Int)) ∧
          (bm_rg ((x1 - 10) / 2 + 1)) ∧
          (if (10 : Int) ≤ x1 then
            (0 ≤ (2 : Int) ∧ (2 : Int) < (4 : Int)) ∧
            (0 ≤ x1 - 10 ∧ 0 < (2 : Int)) ∧
            (if (x1 - 10) % 2 = (0 : Int) then
              (bm_rg (ι 77 0 2 - ((x1 - 10) / 2 + 1))) ∧
              Q (.inl (some (bi (ι 77 0 2 - ((x1 - 10) / 2 + 1))))) ι
            else
              (bm_rg (ι 77 0 2 + ((x1 - 10) / 2 + 1))) ∧
              Q (.inl (some (bi (ι 77 0 2 + ((x1 - 10) / 2 + 1))))) ι)
          else
            (0 ≤ (3 : Int) ∧ (3 : Int) < (4 : Int)) ∧
            (0 ≤ x1 - 10 ∧ 0 < (2 : Int)) ∧
            (if (x1 - 10) % 2 = (0 : Int) then
              (bm_rg (ι 77 0 3 - ((x1 - 10) / 2 + 1))) ∧
              Q (.inl (some (bi (ι 77 0 3 - ((x1 - 10) / 2 + 1))))) ι
            else
              (bm_rg (ι 77 0 3 + ((x1 - 10) / 2 + 1))) ∧
              Q (.inl (some (bi (ι 77 0 3 + ((x1 - 10) / 2 + 1))))) ι))
        else
          (bm_rg (x1 - 4)) ∧
          (0 ≤ x1 - 4 ∧ 0 < (2 : Int)) ∧
          (bm_rg ((x1 - 4) / 2 + 1)) ∧
          (if (10 : Int) ≤ x1 then
            (0 ≤ (2 : Int) ∧ (2 : Int) < (4 : Int)) ∧
            (0 ≤ x1 - 4 ∧ 0 < (2 : Int)) ∧
            (if (x1 - 4) % 2 = (0 : Int) then
              (bm_rg (ι 77 0 2 - ((x1 - 4) / 2 + 1))) ∧
              Q (.inl (some (bi (ι 77 0 2 - ((x1 - 4) / 2 + 1))))) ι
            else
              (bm_rg (ι 77 0 2 + ((x1 - 4) / 2 + 1))) ∧
              Q (.inl (some (bi (ι 77 0 2 + ((x1 - 4) / 2 + 1))))) ι)
          else
            (0 ≤ (3 : Int) ∧ (3 : Int) < (4 : Int)) ∧
            (0 ≤ x1 - 4 ∧ 0 < (2 : Int)) ∧
            (if (x1 - 4) % 2 = (0 : Int) then
              (bm_rg (ι 77 0 3 - ((x1 - 4) / 2 + 1))) ∧
              Q (.inl (some (bi (ι 77 0 3 - ((x1 - 4) / 2 + 1))))) ι
            else
              (bm_rg (ι 77 0 3 + ((x1 - 4) / 2 + 1))) ∧
              Q (.inl (some (bi (ι 77 0 3 + ((x1 - 4) / 2 + 1))))) ι))))
    else
      (bm_rg (3 - x1)) ∧
      (0 ≤ 3 - x1 ∧ 3 - x1 < (4 : Int)) ∧
      Q (.inl (some (bi (ι 77 0 (3 - x1))))) ι)) :
  bC sc 215 [br 13 0, bi x1] ι Q := bm_snd 215 [] 64 h
-- M_readCoded
set_option maxRecDepth 100000 in
theorem e_M_readCoded_0 {sc : bm_Sc} {Q : bm_O → bm_S → Prop} {x1 : Int} {ι : bm_S}
  (h : bC sc 198 [br 13 0] ι (bk0 (fun ι1 => 
      (bm_rg (ι1 13 0 6 + x1)) ∧
      bW sc 216 11 [br 13 0, bi x1, bi (ι1 13 0 6 + x1), bu, bu, bu, bu, bu, bu, bu] [] ι1 Q) (bq Q))) :
  bC sc 216 [br 13 0, bi x1] ι Q := bm_snd 216 [11, 145] 8 h
set_option maxRecDepth 100000 in
theorem e_M_readCoded_11 {sc : bm_Sc} {Q : bm_O → bm_S → Prop} {v1 : bm_V} {x2 : Int} {v3 : bm_V} {v4 : bm_V} {v5 : bm_V} {v6 : bm_V} {v7 : bm_V} {v8 : bm_V} {v9 : bm_V} {ι : bm_S}
  (h : (if x2 ≤ ι 13 0 6 then
      Q (.inl none) ι
    else
      bC sc 195 [br 13 0, bi 1] ι (bk0 (fun ι1 => 
        (0 ≤ (1 : Int) ∧ (1 : Int) < (3 : Int)) ∧
        (bm_rg (704 * ι1 79 0 1)) ∧
        (bm_rg (3192 + 704 * ι1 79 0 1)) ∧
        bC sc 176 [br 13 0, bi (3192 + 704 * ι1 79 0 1), bi 704] ι1 (bk1 (fun r2 ι2 => 
          (0 ≤ r2 ∧ 0 < (64 : Int)) ∧
          bC sc 204 [bi (r2 / 64)] ι2 (bk1 (fun r3 ι3 => 
            (bm_rg (8 * r3)) ∧
            (0 ≤ r2 ∧ 0 < (8 : Int)) ∧
            (0 ≤ r2 / 8 ∧ 0 < (8 : Int)) ∧
            (bm_rg (8 * r3 + r2 / 8 % 8)) ∧
            bC sc 205 [bi (r2 / 64)] ι3 (bk1 (fun r4 ι4 => 
              (bm_rg (8 * r4)) ∧
              (0 ≤ r2 ∧ 0 < (8 : Int)) ∧
              (bm_rg (8 * r4 + r2 % 8)) ∧
              bC sc 202 [bi (8 * r3 + r2 / 8 % 8)] ι4 (bk1 (fun r5 ι5 => 
                bC sc 200 [bi (8 * r3 + r2 / 8 % 8)] ι5 (bk1 (fun r6 ι6 => 
                  bC sc 174 [br 13 0, bi r6] ι6 (bk1 (fun r7 ι7 => 
                    (bm_rg (r5 + r7)) ∧
                    bC sc 203 [bi (8 * r4 + r2 % 8)] ι7 (bk1 (fun r8 ι8 => 
                      bC sc 201 [bi (8 * r4 + r2 % 8)] ι8 (bk1 (fun r9 ι9 => 
                        bC sc 174 [br 13 0, bi r9] ι9 (bk1 (fun r10 ι10 => 
                          (bm_rg (r8 + r10)) ∧
                          bC sc 186 [br 13 0, bi 9] ι10 (bk0 (fun ι11 => 
                            (bm_rg (x2 - ι11 13 0 6)) ∧
                            (if r5 + r7 ≤ x2 - ι11 13 0 6 then
                              bW sc 216 145 [br 13 0, v1, bi x2, bi r2, bi (r2 / 64), bi (8 * r3 + r2 / 8 % 8), bi (8 * r4 + r2 % 8), bi (r5 + r7), bi (r8 + r10), bi 0] [] ι11 Q
                            else
                              bC sc 152 [br 13 0, bi 8] ι11 (bk0 (fun ι12 => 
                                bW sc 216 145 [br 13 0, v1, bi x2, bi r2, bi (r2 / 64), bi (8 * r3 + r2 / 8 % 8), bi (8 * r4 + r2 % 8), bi (r5 + r7), bi (r8 + r10), bi 0] [] ι12 Q) (bq Q)))) (bq Q))) (bq Q))) (bq Q))) (bq Q))) (bq Q))) (bq Q))) (bq Q))) (bq Q))) (bq Q))) (bq Q))) (bq Q)))) :
  bW sc 216 11 [br 13 0, v1, bi x2, v3, v4, v5, v6, v7, v8, v9] [] ι Q := bm_snd 216 [11, 145] 74 h
set_option maxRecDepth 100000 in
theorem e_M_readCoded_145 {sc : bm_Sc} {Q : bm_O → bm_S → Prop} {v1 : bm_V} {x2 : Int} {v3 : bm_V} {x4 : Int} {v5 : bm_V} {v6 : bm_V} {x7 : Int} {x8 : Int} {x9 : Int} {ι : bm_S}
  (h : (if x7 ≤ x9 then
      (if x2 ≤ ι 13 0 6 then
        bW sc 216 11 [br 13 0, v1, bi x2, v3, bi x4, v5, v6, bi x7, bi x8, bi x9] [] ι Q
      else
        (if (2 : Int) ≤ x4 then
          bC sc 217 [br 13 0, bi 0, bi x8, bi x2] ι (bk0 (fun ι1 => 
            bW sc 216 11 [br 13 0, v1, bi x2, v3, bi x4, v5, v6, bi x7, bi x8, bi x9] [] ι1 Q) (bq Q))
        else
          bC sc 217 [br 13 0, bi 1, bi x8, bi x2] ι (bk0 (fun ι2 => 
            bW sc 216 11 [br 13 0, v1, bi x2, v3, bi x4, v5, v6, bi x7, bi x8, bi x9] [] ι2 Q) (bq Q))))
    else
      bC sc 214 [br 13 0] ι (bk0 (fun ι3 => 
        (bm_rg (x9 + 1)) ∧
        bW sc 216 145 [br 13 0, v1, bi x2, v3, bi x4, v5, v6, bi x7, bi x8, bi (x9 + 1)] [] ι3 Q) (bq Q)))) :
  bW sc 216 145 [br 13 0, v1, bi x2, v3, bi x4, v5, v6, bi x7, bi x8, bi x9] [] ι Q := bm_snd 216 [11, 145] 18 h
-- M_goBack
set_option maxRecDepth 100000 in
theorem e_M_goBack_0 {sc : bm_Sc} {Q : bm_O → bm_S → Prop} {x1 : Int} {x2 : Int} {x3 : Int} {ι : bm_S}
  (h : (if x1 = (0 : Int) then
      bC sc 195 [br 13 0, bi 2] ι (bk0 (fun ι1 => 
        (0 ≤ (2 : Int) ∧ (2 : Int) < (3 : Int)) ∧
        (bm_rg (4 * ι1 79 0 2)) ∧
        (if x2 ≤ (5 : Int) then
          (bm_rg (x2 - 2)) ∧
          (bm_rg (4 * ι1 79 0 2 + (x2 - 2))) ∧
          (0 ≤ 4 * ι1 79 0 2 + (x2 - 2) ∧ 4 * ι1 79 0 2 + (x2 - 2) < (48 : Int)) ∧
          (bm_rg (520 * ι1 84 0 (4 * ι1 79 0 2 + (x2 - 2)))) ∧
          (bm_rg (11640 + 520 * ι1 84 0 (4 * ι1 79 0 2 + (x2 - 2)))) ∧
          bC sc 170 [br 13 0] ι1 (bk1 (fun r2 ι2 => 
            bC sc 176 [br 13 0, bi (11640 + 520 * ι1 84 0 (4 * ι1 79 0 2 + (x2 - 2))), bi r2] ι2 (bk1 (fun r3 ι3 => 
              bW sc 217 60 [br 13 0, bi x1, bi x2, bi x3, bi r3, bi (ι1 84 0 (4 * ι1 79 0 2 + (x2 - 2))), bu, bu] [] ι3 Q) (bq Q))) (bq Q))
        else
          (bm_rg (4 * ι1 79 0 2 + 3)) ∧
          (0 ≤ 4 * ι1 79 0 2 + 3 ∧ 4 * ι1 79 0 2 + 3 < (48 : Int)) ∧
          (bm_rg (520 * ι1 84 0 (4 * ι1 79 0 2 + 3))) ∧
          (bm_rg (11640 + 520 * ι1 84 0 (4 * ι1 79 0 2 + 3))) ∧
          bC sc 170 [br 13 0] ι1 (bk1 (fun r4 ι4 => 
            bC sc 176 [br 13 0, bi (11640 + 520 * ι1 84 0 (4 * ι1 79 0 2 + 3)), bi r4] ι4 (bk1 (fun r5 ι5 => 
              bW sc 217 60 [br 13 0, bi x1, bi x2, bi x3, bi r5, bi (ι1 84 0 (4 * ι1 79 0 2 + 3)), bu, bu] [] ι5 Q) (bq Q))) (bq Q)))) (bq Q))
    else
      bW sc 217 60 [br 13 0, bi x1, bi x2, bi x3, bi 0, bu, bu, bu] [] ι Q)) :
  bC sc 217 [br 13 0, bi x1, bi x2, bi x3] ι Q := bm_snd 217 [60, 143] 35 h
set_option maxRecDepth 100000 in
theorem e_M_goBack_60 {sc : bm_Sc} {Q : bm_O → bm_S → Prop} {v1 : bm_V} {x2 : Int} {x3 : Int} {x4 : Int} {v5 : bm_V} {v6 : bm_V} {v7 : bm_V} {ι : bm_S}
  (h : bC sc 215 [br 13 0, bi x4] ι (bk1 (fun r1 ι1 => 
      (if (0 : Int) < r1 then
        (if ι1 13 0 42 ≤ ι1 13 0 6 then
          (if r1 ≤ ι1 13 0 42 then
            (bm_rg (x3 - ι1 13 0 6)) ∧
            (if x2 ≤ x3 - ι1 13 0 6 then
              bW sc 217 143 [br 13 0, v1, bi x2, bi x3, bi x4, bi r1, bi (ι1 13 0 42), bi 0] [] ι1 Q
            else
              bC sc 152 [br 13 0, bi 8] ι1 (bk0 (fun ι2 => 
                bW sc 217 143 [br 13 0, v1, bi x2, bi x3, bi x4, bi r1, bi (ι1 13 0 42), bi 0] [] ι2 Q) (bq Q)))
          else
            (bm_rg (r1 - ι1 13 0 42)) ∧
            (bm_rg (r1 - ι1 13 0 42 - 1)) ∧
            bC sc 218 [br 13 0, bi (r1 - ι1 13 0 42 - 1), bi x2, bi x3] ι1 (bk0 (fun ι3 => 
              Q (.inl none) ι3) (bq Q)))
        else
          (if r1 ≤ ι1 13 0 6 then
            (bm_rg (x3 - ι1 13 0 6)) ∧
            (if x2 ≤ x3 - ι1 13 0 6 then
              bW sc 217 143 [br 13 0, v1, bi x2, bi x3, bi x4, bi r1, bi (ι1 13 0 6), bi 0] [] ι1 Q
            else
              bC sc 152 [br 13 0, bi 8] ι1 (bk0 (fun ι4 => 
                bW sc 217 143 [br 13 0, v1, bi x2, bi x3, bi x4, bi r1, bi (ι1 13 0 6), bi 0] [] ι4 Q) (bq Q)))
          else
            (bm_rg (r1 - ι1 13 0 6)) ∧
            (bm_rg (r1 - ι1 13 0 6 - 1)) ∧
            bC sc 218 [br 13 0, bi (r1 - ι1 13 0 6 - 1), bi x2, bi x3] ι1 (bk0 (fun ι5 => 
              Q (.inl none) ι5) (bq Q))))
      else
        bC sc 152 [br 13 0, bi 9] ι1 (bk0 (fun ι6 => 
          (if ι6 13 0 42 ≤ ι6 13 0 6 then
            (if r1 ≤ ι6 13 0 42 then
              (bm_rg (x3 - ι6 13 0 6)) ∧
              (if x2 ≤ x3 - ι6 13 0 6 then
                bW sc 217 143 [br 13 0, v1, bi x2, bi x3, bi x4, bi r1, bi (ι6 13 0 42), bi 0] [] ι6 Q
              else
                bC sc 152 [br 13 0, bi 8] ι6 (bk0 (fun ι7 => 
                  bW sc 217 143 [br 13 0, v1, bi x2, bi x3, bi x4, bi r1, bi (ι6 13 0 42), bi 0] [] ι7 Q) (bq Q)))
            else
              (bm_rg (r1 - ι6 13 0 42)) ∧
              (bm_rg (r1 - ι6 13 0 42 - 1)) ∧
              bC sc 218 [br 13 0, bi (r1 - ι6 13 0 42 - 1), bi x2, bi x3] ι6 (bk0 (fun ι8 => 
                Q (.inl none) ι8) (bq Q)))
          else
            (if r1 ≤ ι6 13 0 6 then
              (bm_rg (x3 - ι6 13 0 6)) ∧
              (if x2 ≤ x3 - ι6 13 0 6 then
                bW sc 217 143 [br 13 0, v1, bi x2, bi x3, bi x4, bi r1, bi (ι6 13 0 6), bi 0] [] ι6 Q
              else
                bC sc 152 [br 13 0, bi 8] ι6 (bk0 (fun ι9 => 
                  bW sc 217 143 [br 13 0, v1, bi x2, bi x3, bi x4, bi r1, bi (ι6 13 0 6), bi 0] [] ι9 Q) (bq Q)))
            else
              (bm_rg (r1 - ι6 13 0 6)) ∧
              (bm_rg (r1 - ι6 13 0 6 - 1)) ∧
              bC sc 218 [br 13 0, bi (r1 - ι6 13 0 6 - 1), bi x2, bi x3] ι6 (bk0 (fun ι10 => 
                Q (.inl none) ι10) (bq Q))))) (bq Q)))) (bq Q))) :
  bW sc 217 60 [br 13 0, v1, bi x2, bi x3, bi x4, v5, v6, v7] [] ι Q := bm_snd 217 [60, 143] 33 h
set_option maxRecDepth 100000 in
theorem e_M_goBack_143 {sc : bm_Sc} {Q : bm_O → bm_S → Prop} {v1 : bm_V} {x2 : Int} {v3 : bm_V} {x4 : Int} {x5 : Int} {v6 : bm_V} {x7 : Int} {ι : bm_S}
  (h : (if x2 ≤ x7 then
      bC sc 186 [br 13 0, bi 10] ι (bk0 (fun ι1 => 
        (if x4 = (0 : Int) then
          Q (.inl none) ι1
        else
          bC sc 189 [br 13 0, bi x5] ι1 (bk0 (fun ι2 => 
            Q (.inl none) ι2) (bq Q)))) (bq Q))
    else
      (bm_rg (ι 13 0 6 - x5)) ∧
      (0 ≤ ι 13 0 6 - x5 ∧ ι 13 0 6 - x5 < (9000 : Int)) ∧
      bC sc 213 [br 13 0, bi (ι 67 0 (ι 13 0 6 - x5))] ι (bk0 (fun ι3 => 
        (bm_rg (x7 + 1)) ∧
        bW sc 217 143 [br 13 0, v1, bi x2, v3, bi x4, bi x5, v6, bi (x7 + 1)] [] ι3 Q) (bq Q)))) :
  bW sc 217 143 [br 13 0, v1, bi x2, v3, bi x4, bi x5, v6, bi x7] [] ι Q := bm_snd 217 [60, 143] 15 h
-- M_tellWord
set_option maxRecDepth 100000 in
theorem e_M_tellWord_0 {sc : bm_Sc} {Q : bm_O → bm_S → Prop} {x1 : Int} {x2 : Int} {x3 : Int} {ι : bm_S}
  (h : (if (if (4 : Int) ≤ x2 ∧ x2 ≤ (10 : Int) then (1 : Int) else 0) = (0 : Int) then
      bC sc 152 [br 13 0, bi 10] ι (bk0 (fun ι1 => 
        bW sc 218 20 [br 13 0, bi x1, bi x2, bi x3, bu, bu, bu] [] ι1 Q) (bq Q))
    else
      bW sc 218 20 [br 13 0, bi x1, bi x2, bi x3, bu, bu, bu] [] ι Q)) :
  bC sc 218 [br 13 0, bi x1, bi x2, bi x3] ι Q := bm_snd 218 [20, 102] 10 h
set_option maxRecDepth 100000 in
theorem e_M_tellWord_20 {sc : bm_Sc} {Q : bm_O → bm_S → Prop} {x1 : Int} {x2 : Int} {x3 : Int} {v4 : bm_V} {v5 : bm_V} {v6 : bm_V} {ι : bm_S}
  (h : bC sc 166 [br 13 0, bi x2] ι (bk1 (fun r1 ι1 => 
      ((0 ≤ r1 ∧ r1 < 32) ∧ bm_rg (1 * bm_p2 r1)) ∧
      (bm_rg (1 * bm_p2 r1 - 1)) ∧
      (0 ≤ x2 ∧ x2 < (11 : Int)) ∧
      (if bm_band x1 (1 * bm_p2 r1 - 1) < ι1 69 0 x2 then
        (0 ≤ r1 ∧ r1 < 32) ∧
        (if x1 / bm_p2 r1 ≤ (23 : Int) then
          (0 ≤ r1 ∧ r1 < 32) ∧
          bC sc 168 [br 13 0, bi x2, bi (bm_band x1 (1 * bm_p2 r1 - 1)), bi (x1 / bm_p2 r1)] ι1 (bk0 (fun ι2 => 
            (bm_rg (x3 - ι2 13 0 6)) ∧
            (if ι2 13 0 10 ≤ x3 - ι2 13 0 6 then
              bW sc 218 102 [br 13 0, bi x1, bi x2, bi x3, bi r1, bi (bm_band x1 (1 * bm_p2 r1 - 1)), bi 0] [] ι2 Q
            else
              bC sc 152 [br 13 0, bi 8] ι2 (bk0 (fun ι3 => 
                bW sc 218 102 [br 13 0, bi x1, bi x2, bi x3, bi r1, bi (bm_band x1 (1 * bm_p2 r1 - 1)), bi 0] [] ι3 Q) (bq Q)))) (bq Q))
        else
          bC sc 152 [br 13 0, bi 11] ι1 (bk0 (fun ι4 => 
            (0 ≤ r1 ∧ r1 < 32) ∧
            bC sc 168 [br 13 0, bi x2, bi (bm_band x1 (1 * bm_p2 r1 - 1)), bi (x1 / bm_p2 r1)] ι4 (bk0 (fun ι5 => 
              (bm_rg (x3 - ι5 13 0 6)) ∧
              (if ι5 13 0 10 ≤ x3 - ι5 13 0 6 then
                bW sc 218 102 [br 13 0, bi x1, bi x2, bi x3, bi r1, bi (bm_band x1 (1 * bm_p2 r1 - 1)), bi 0] [] ι5 Q
              else
                bC sc 152 [br 13 0, bi 8] ι5 (bk0 (fun ι6 => 
                  bW sc 218 102 [br 13 0, bi x1, bi x2, bi x3, bi r1, bi (bm_band x1 (1 * bm_p2 r1 - 1)), bi 0] [] ι6 Q) (bq Q)))) (bq Q))) (bq Q)))
      else
        bC sc 152 [br 13 0, bi 10] ι1 (bk0 (fun ι7 => 
          (0 ≤ r1 ∧ r1 < 32) ∧
          (if x1 / bm_p2 r1 ≤ (23 : Int) then
            (0 ≤ r1 ∧ r1 < 32) ∧
            bC sc 168 [br 13 0, bi x2, bi (bm_band x1 (1 * bm_p2 r1 - 1)), bi (x1 / bm_p2 r1)] ι7 (bk0 (fun ι8 => 
              (bm_rg (x3 - ι8 13 0 6)) ∧
              (if ι8 13 0 10 ≤ x3 - ι8 13 0 6 then
                bW sc 218 102 [br 13 0, bi x1, bi x2, bi x3, bi r1, bi (bm_band x1 (1 * bm_p2 r1 - 1)), bi 0] [] ι8 Q
              else
                bC sc 152 [br 13 0, bi 8] ι8 (bk0 (fun ι9 => 
                  bW sc 218 102 [br 13 0, bi x1, bi x2, bi x3, bi r1, bi (bm_band x1 (1 * bm_p2 r1 - 1)), bi 0] [] ι9 Q) (bq Q)))) (bq Q))
          else
            bC sc 152 [br 13 0, bi 11] ι7 (bk0 (fun ι10 => 
              (0 ≤ r1 ∧ r1 < 32) ∧
              bC sc 168 [br 13 0, bi x2, bi (bm_band x1 (1 * bm_p2 r1 - 1)), bi (x1 / bm_p2 r1)] ι10 (bk0 (fun ι11 => 
                (bm_rg (x3 - ι11 13 0 6)) ∧
                (if ι11 13 0 10 ≤ x3 - ι11 13 0 6 then
                  bW sc 218 102 [br 13 0, bi x1, bi x2, bi x3, bi r1, bi (bm_band x1 (1 * bm_p2 r1 - 1)), bi 0] [] ι11 Q
                else
                  bC sc 152 [br 13 0, bi 8] ι11 (bk0 (fun ι12 => 
                    bW sc 218 102 [br 13 0, bi x1, bi x2, bi x3, bi r1, bi (bm_band x1 (1 * bm_p2 r1 - 1)), bi 0] [] ι12 Q) (bq Q)))) (bq Q))) (bq Q)))) (bq Q)))) (bq Q))) :
  bW sc 218 20 [br 13 0, bi x1, bi x2, bi x3, v4, v5, v6] [] ι Q := bm_snd 218 [20, 102] 49 h
set_option maxRecDepth 100000 in
theorem e_M_tellWord_102 {sc : bm_Sc} {Q : bm_O → bm_S → Prop} {v1 : bm_V} {v2 : bm_V} {v3 : bm_V} {v4 : bm_V} {v5 : bm_V} {x6 : Int} {ι : bm_S}
  (h : (if ι 13 0 10 ≤ x6 then
      bC sc 186 [br 13 0, bi 11] ι (bk0 (fun ι1 => 
        Q (.inl none) ι1) (bq Q))
    else
      (0 ≤ x6 ∧ x6 < (20 : Int)) ∧
      bC sc 213 [br 13 0, bi (ι 70 0 x6)] ι (bk0 (fun ι2 => 
        (bm_rg (x6 + 1)) ∧
        bW sc 218 102 [br 13 0, v1, v2, v3, v4, v5, bi (x6 + 1)] [] ι2 Q) (bq Q)))) :
  bW sc 218 102 [br 13 0, v1, v2, v3, v4, v5, bi x6] [] ι Q := bm_snd 218 [20, 102] 13 h
-- M_readSpan
set_option maxRecDepth 100000 in
theorem e_M_readSpan_0 {sc : bm_Sc} {Q : bm_O → bm_S → Prop}  {ι : bm_S}
  (h : bC sc 173 [br 13 0] ι (bk1 (fun r1 ι1 => 
      (if r1 = (1 : Int) then
        bC sc 174 [br 13 0, bi 3] ι1 (bk1 (fun r2 ι2 => 
          (bm_rg (17 + r2)) ∧
          (if r2 = (0 : Int) then
            bC sc 174 [br 13 0, bi 3] ι2 (bk1 (fun r3 ι3 => 
              (if r3 = (1 : Int) then
                bC sc 152 [br 13 0, bi 3] ι3 (bk0 (fun ι4 => 
                  (if r3 = (0 : Int) then
                    ((0 ≤ (17 : Int) ∧ (17 : Int) < 32) ∧ bm_rg (1 * 131072)) ∧
                    (bm_rg (1 * 131072 - 16)) ∧
                    Q (.inl none) (up ι4 13 0 42 (1 * 131072 - 16))
                  else
                    (bm_rg (8 + r3)) ∧
                    ((0 ≤ 8 + r3 ∧ 8 + r3 < 32) ∧ bm_rg (1 * bm_p2 (8 + r3))) ∧
                    (bm_rg (1 * bm_p2 (8 + r3) - 16)) ∧
                    Q (.inl none) (up ι4 13 0 42 (1 * bm_p2 (8 + r3) - 16)))) (bq Q))
              else
                (if r3 = (0 : Int) then
                  ((0 ≤ (17 : Int) ∧ (17 : Int) < 32) ∧ bm_rg (1 * 131072)) ∧
                  (bm_rg (1 * 131072 - 16)) ∧
                  Q (.inl none) (up ι3 13 0 42 (1 * 131072 - 16))
                else
                  (bm_rg (8 + r3)) ∧
                  ((0 ≤ 8 + r3 ∧ 8 + r3 < 32) ∧ bm_rg (1 * bm_p2 (8 + r3))) ∧
                  (bm_rg (1 * bm_p2 (8 + r3) - 16)) ∧
                  Q (.inl none) (up ι3 13 0 42 (1 * bm_p2 (8 + r3) - 16))))) (bq Q))
          else
            ((0 ≤ 17 + r2 ∧ 17 + r2 < 32) ∧ bm_rg (1 * bm_p2 (17 + r2))) ∧
            (bm_rg (1 * bm_p2 (17 + r2) - 16)) ∧
            Q (.inl none) (up ι2 13 0 42 (1 * bm_p2 (17 + r2) - 16)))) (bq Q))
      else
        ((0 ≤ (16 : Int) ∧ (16 : Int) < 32) ∧ bm_rg (1 * 65536)) ∧
        (bm_rg (1 * 65536 - 16)) ∧
        Q (.inl none) (up ι1 13 0 42 (1 * 65536 - 16)))) (bq Q))) :
  bC sc 219 [br 13 0] ι Q := bm_snd 219 [] 40 h
-- M_passOver
set_option maxRecDepth 100000 in
theorem e_M_passOver_0 {sc : bm_Sc} {Q : bm_O → bm_S → Prop} {x1 : Int} {ι : bm_S}
  (h : (if x1 = (0 : Int) then
      bW sc 220 9 [br 13 0, bi x1, bu, bu, bu] [] ι Q
    else
      bC sc 152 [br 13 0, bi 4] ι (bk0 (fun ι1 => 
        bW sc 220 9 [br 13 0, bi x1, bu, bu, bu] [] ι1 Q) (bq Q)))) :
  bC sc 220 [br 13 0, bi x1] ι Q := bm_snd 220 [9, 28] 6 h
set_option maxRecDepth 100000 in
theorem e_M_passOver_9 {sc : bm_Sc} {Q : bm_O → bm_S → Prop} {v1 : bm_V} {v2 : bm_V} {v3 : bm_V} {v4 : bm_V} {ι : bm_S}
  (h : bC sc 187 [br 13 0, bi 1, bi 0] ι (bk0 (fun ι1 => 
      bC sc 173 [br 13 0] ι1 (bk1 (fun r2 ι2 => 
        (if r2 = (1 : Int) then
          bC sc 152 [br 13 0, bi 4] ι2 (bk0 (fun ι3 => 
            bW sc 220 28 [br 13 0, v1, v2, v3, v4] [] ι3 Q) (bq Q))
        else
          bW sc 220 28 [br 13 0, v1, v2, v3, v4] [] ι2 Q)) (bq Q))) (bq Q))) :
  bW sc 220 9 [br 13 0, v1, v2, v3, v4] [] ι Q := bm_snd 220 [9, 28] 12 h
set_option maxRecDepth 100000 in
theorem e_M_passOver_28 {sc : bm_Sc} {Q : bm_O → bm_S → Prop} {v1 : bm_V} {v2 : bm_V} {v3 : bm_V} {v4 : bm_V} {ι : bm_S}
  (h : bC sc 174 [br 13 0, bi 2] ι (bk1 (fun r1 ι1 => 
      (bm_rg (8 * r1)) ∧
      bC sc 174 [br 13 0, bi (8 * r1)] ι1 (bk1 (fun r2 ι2 => 
        (if r1 ≤ (1 : Int) then
          (if r1 ≤ (0 : Int) then
            bC sc 185 [br 13 0, bi 1, bi 0] ι2 (bk0 (fun ι3 => 
              bC sc 175 [br 13 0] ι3 (bk0 (fun ι4 => 
                (0 ≤ ι4 13 0 16 ∧ 0 < (8 : Int)) ∧
                (bm_rg (ι4 13 0 15 - ι4 13 0 16 / 8)) ∧
                (if (0 : Int) ≤ ι4 13 0 15 - ι4 13 0 16 / 8 then
                  (bm_rg (8 * 0)) ∧
                  (bm_rg (ι4 13 0 16 + 8 * 0)) ∧
                  Q (.inl none) (up ι4 13 0 16 (ι4 13 0 16 + 8 * 0))
                else
                  (bm_rg (8 * ι4 13 0 15)) ∧
                  bC sc 152 [br 13 0, bi 1] (up ι4 13 0 16 (8 * ι4 13 0 15)) (bk0 (fun ι5 => 
                    (bm_rg (8 * 0)) ∧
                    (bm_rg (ι5 13 0 16 + 8 * 0)) ∧
                    Q (.inl none) (up ι5 13 0 16 (ι5 13 0 16 + 8 * 0))) (bq Q)))) (bq Q))) (bq Q))
          else
            (bm_rg (r2 + 1)) ∧
            bC sc 185 [br 13 0, bi 1, bi (r2 + 1)] ι2 (bk0 (fun ι6 => 
              bC sc 175 [br 13 0] ι6 (bk0 (fun ι7 => 
                (0 ≤ ι7 13 0 16 ∧ 0 < (8 : Int)) ∧
                (bm_rg (ι7 13 0 15 - ι7 13 0 16 / 8)) ∧
                (if r2 + 1 ≤ ι7 13 0 15 - ι7 13 0 16 / 8 then
                  (bm_rg (8 * (r2 + 1))) ∧
                  (bm_rg (ι7 13 0 16 + 8 * (r2 + 1))) ∧
                  Q (.inl none) (up ι7 13 0 16 (ι7 13 0 16 + 8 * (r2 + 1)))
                else
                  (bm_rg (8 * ι7 13 0 15)) ∧
                  bC sc 152 [br 13 0, bi 1] (up ι7 13 0 16 (8 * ι7 13 0 15)) (bk0 (fun ι8 => 
                    (bm_rg (8 * (r2 + 1))) ∧
                    (bm_rg (ι8 13 0 16 + 8 * (r2 + 1))) ∧
                    Q (.inl none) (up ι8 13 0 16 (ι8 13 0 16 + 8 * (r2 + 1)))) (bq Q)))) (bq Q))) (bq Q)))
        else
          (bm_rg (r1 - 1)) ∧
          (bm_rg (8 * (r1 - 1))) ∧
          (0 ≤ 8 * (r1 - 1) ∧ 8 * (r1 - 1) < 32) ∧
          (if r2 / bm_p2 (8 * (r1 - 1)) = (0 : Int) then
            bC sc 152 [br 13 0, bi 5] ι2 (bk0 (fun ι15 => 
              (if r1 ≤ (0 : Int) then
                bC sc 185 [br 13 0, bi 1, bi 0] ι15 (bk0 (fun ι16 => 
                  bC sc 175 [br 13 0] ι16 (bk0 (fun ι17 => 
                    (0 ≤ ι17 13 0 16 ∧ 0 < (8 : Int)) ∧
                    (bm_rg (ι17 13 0 15 - ι17 13 0 16 / 8)) ∧
                    (if (0 : Int) ≤ ι17 13 0 15 - ι17 13 0 16 / 8 then
                      (bm_rg (8 * 0)) ∧
                      (bm_rg (ι17 13 0 16 + 8 * 0)) ∧
                      Q (.inl none) (up ι17 13 0 16 (ι17 13 0 16 + 8 * 0))
                    else
                      (bm_rg (8 * ι17 13 0 15)) ∧
                      bC sc 152 [br 13 0, bi 1] (up ι17 13 0 16 (8 * ι17 13 0 15)) (bk0 (fun ι18 => 
                        (bm_rg (8 * 0)) ∧
                        (bm_rg (ι18 13 0 16 + 8 * 0)) ∧
                        Q (.inl none) (up ι18 13 0 16 (ι18 13 0 16 + 8 * 0))) (bq Q)))) (bq Q))) (bq Q))
              else
                (bm_rg (r2 + 1)) ∧
                bC sc 185 [br 13 0, bi 1, bi (r2 + 1)] ι15 (bk0 (fun ι19 => 
                  bC sc 175 [br 13 0] ι19 (bk0 (fun ι20 => 
                    (0 ≤ ι20 13 0 16 ∧ 0 < (8 : Int)) ∧
                    (bm_rg (ι20 13 0 15 - ι20 13 0 16 / 8)) ∧
                    (if r2 + 1 ≤ ι20 13 0 15 - ι20 13 0 16 / 8 then
                      (bm_rg (8 * (r2 + 1))) ∧
                      (bm_rg (ι20 13 0 16 + 8 * (r2 + 1))) ∧
                      Q (.inl none) (up ι20 13 0 16 (ι20 13 0 16 + 8 * (r2 + 1)))
                    else
                      (bm_rg (8 * ι20 13 0 15)) ∧
                      bC sc 152 [br 13 0, bi 1] (up ι20 13 0 16 (8 * ι20 13 0 15)) (bk0 (fun ι21 => 
                        (bm_rg (8 * (r2 + 1))) ∧
                        (bm_rg (ι21 13 0 16 + 8 * (r2 + 1))) ∧
                        Q (.inl none) (up ι21 13 0 16 (ι21 13 0 16 + 8 * (r2 + 1)))) (bq Q)))) (bq Q))) (bq Q)))) (bq Q))
          else
            (if r1 ≤ (0 : Int) then
              bC sc 185 [br 13 0, bi 1, bi 0] ι2 (bk0 (fun ι9 => 
                bC sc 175 [br 13 0] ι9 (bk0 (fun ι10 => 
                  (0 ≤ ι10 13 0 16 ∧ 0 < (8 : Int)) ∧
                  (bm_rg (ι10 13 0 15 - ι10 13 0 16 / 8)) ∧
                  (if (0 : Int) ≤ ι10 13 0 15 - ι10 13 0 16 / 8 then
                    (bm_rg (8 * 0)) ∧
                    (bm_rg (ι10 13 0 16 + 8 * 0)) ∧
                    Q (.inl none) (up ι10 13 0 16 (ι10 13 0 16 + 8 * 0))
                  else
                    (bm_rg (8 * ι10 13 0 15)) ∧
                    bC sc 152 [br 13 0, bi 1] (up ι10 13 0 16 (8 * ι10 13 0 15)) (bk0 (fun ι11 => 
                      (bm_rg (8 * 0)) ∧
                      (bm_rg (ι11 13 0 16 + 8 * 0)) ∧
                      Q (.inl none) (up ι11 13 0 16 (ι11 13 0 16 + 8 * 0))) (bq Q)))) (bq Q))) (bq Q))
            else
              (bm_rg (r2 + 1)) ∧
              bC sc 185 [br 13 0, bi 1, bi (r2 + 1)] ι2 (bk0 (fun ι12 => 
                bC sc 175 [br 13 0] ι12 (bk0 (fun ι13 => 
                  (0 ≤ ι13 13 0 16 ∧ 0 < (8 : Int)) ∧
                  (bm_rg (ι13 13 0 15 - ι13 13 0 16 / 8)) ∧
                  (if r2 + 1 ≤ ι13 13 0 15 - ι13 13 0 16 / 8 then
                    (bm_rg (8 * (r2 + 1))) ∧
                    (bm_rg (ι13 13 0 16 + 8 * (r2 + 1))) ∧
                    Q (.inl none) (up ι13 13 0 16 (ι13 13 0 16 + 8 * (r2 + 1)))
                  else
                    (bm_rg (8 * ι13 13 0 15)) ∧
                    bC sc 152 [br 13 0, bi 1] (up ι13 13 0 16 (8 * ι13 13 0 15)) (bk0 (fun ι14 => 
                      (bm_rg (8 * (r2 + 1))) ∧
                      (bm_rg (ι14 13 0 16 + 8 * (r2 + 1))) ∧
                      Q (.inl none) (up ι14 13 0 16 (ι14 13 0 16 + 8 * (r2 + 1)))) (bq Q)))) (bq Q))) (bq Q)))))) (bq Q))) (bq Q))) :
  bW sc 220 28 [br 13 0, v1, v2, v3, v4] [] ι Q := bm_snd 220 [9, 28] 64 h
-- M_readLength
set_option maxRecDepth 100000 in
theorem e_M_readLength_0 {sc : bm_Sc} {Q : bm_O → bm_S → Prop} {x1 : Int} {ι : bm_S}
  (h : (bm_rg (4 * x1)) ∧
    bC sc 174 [br 13 0, bi (4 * x1)] ι (bk1 (fun r1 ι1 => 
      (if x1 ≤ (4 : Int) then
        (bm_rg (r1 + 1)) ∧
        Q (.inl (some (bi (r1 + 1)))) ι1
      else
        (bm_rg (x1 - 1)) ∧
        (bm_rg (4 * (x1 - 1))) ∧
        (0 ≤ 4 * (x1 - 1) ∧ 4 * (x1 - 1) < 32) ∧
        (if r1 / bm_p2 (4 * (x1 - 1)) = (0 : Int) then
          bC sc 152 [br 13 0, bi 5] ι1 (bk0 (fun ι2 => 
            (bm_rg (r1 + 1)) ∧
            Q (.inl (some (bi (r1 + 1)))) ι2) (bq Q))
        else
          (bm_rg (r1 + 1)) ∧
          Q (.inl (some (bi (r1 + 1)))) ι1))) (bq Q))) :
  bC sc 221 [br 13 0, bi x1] ι Q := bm_snd 221 [] 24 h
-- M_readAll
set_option maxRecDepth 100000 in
theorem e_M_readAll_0 {sc : bm_Sc} {Q : bm_O → bm_S → Prop}  {ι : bm_S}
  (h : bC sc 174 [br 13 0, bi 16] ι (bk1 (fun r1 ι1 => 
      bC sc 164 [br 13 0] ι1 (bk1 (fun r2 ι2 => 
        (if r1 = r2 then
          bC sc 219 [br 13 0] ι2 (bk0 (fun ι3 => 
            bW sc 222 24 [br 13 0, bi 0, bu] [] ι3 Q) (bq Q))
        else
          bC sc 152 [br 13 0, bi 2] ι2 (bk0 (fun ι4 => 
            bC sc 219 [br 13 0] ι4 (bk0 (fun ι5 => 
              bW sc 222 24 [br 13 0, bi 0, bu] [] ι5 Q) (bq Q))) (bq Q)))) (bq Q))) (bq Q))) :
  bC sc 222 [br 13 0] ι Q := bm_snd 222 [24] 14 h
set_option maxRecDepth 100000 in
theorem e_M_readAll_24 {sc : bm_Sc} {Q : bm_O → bm_S → Prop} {x1 : Int} {v2 : bm_V} {ι : bm_S}
  (h : (if x1 = (0 : Int) then
      bC sc 173 [br 13 0] ι (bk1 (fun r3 ι3 => 
        (if r3 = (1 : Int) then
          bC sc 173 [br 13 0] ι3 (bk1 (fun r8 ι8 => 
            (if r8 = (1 : Int) then
              bC sc 187 [br 13 0, bi 0, bi 0] ι8 (bk0 (fun ι13 => 
                bW sc 222 24 [br 13 0, bi 1, v2] [] ι13 Q) (bq Q))
            else
              bC sc 174 [br 13 0, bi 2] ι8 (bk1 (fun r9 ι9 => 
                (if r9 = (3 : Int) then
                  bC sc 220 [br 13 0, bi 1] ι9 (bk0 (fun ι12 => 
                    bW sc 222 24 [br 13 0, bi 1, bi r9] [] ι12 Q) (bq Q))
                else
                  (bm_rg (4 + r9)) ∧
                  bC sc 221 [br 13 0, bi (4 + r9)] ι9 (bk1 (fun r10 ι10 => 
                    bC sc 223 [br 13 0, bi 1, bi r10] ι10 (bk0 (fun ι11 => 
                      bW sc 222 24 [br 13 0, bi 1, bi r9] [] ι11 Q) (bq Q))) (bq Q)))) (bq Q)))) (bq Q))
        else
          bC sc 174 [br 13 0, bi 2] ι3 (bk1 (fun r4 ι4 => 
            (if r4 = (3 : Int) then
              bC sc 220 [br 13 0, bi 0] ι4 (bk0 (fun ι7 => 
                bW sc 222 24 [br 13 0, bi 0, bi r4] [] ι7 Q) (bq Q))
            else
              (bm_rg (4 + r4)) ∧
              bC sc 221 [br 13 0, bi (4 + r4)] ι4 (bk1 (fun r5 ι5 => 
                bC sc 223 [br 13 0, bi 0, bi r5] ι5 (bk0 (fun ι6 => 
                  bW sc 222 24 [br 13 0, bi 0, bi r4] [] ι6 Q) (bq Q))) (bq Q)))) (bq Q)))) (bq Q))
    else
      bC sc 175 [br 13 0] ι (bk0 (fun ι1 => 
        (bm_rg (8 * ι1 13 0 15)) ∧
        (if 8 * ι1 13 0 15 ≤ ι1 13 0 16 then
          Q (.inl none) ι1
        else
          bC sc 152 [br 13 0, bi 16] ι1 (bk0 (fun ι2 => 
            Q (.inl none) ι2) (bq Q)))) (bq Q)))) :
  bW sc 222 24 [br 13 0, bi x1, v2] [] ι Q := bm_snd 222 [24] 32 h
-- M_readPart
set_option maxRecDepth 100000 in
theorem e_M_readPart_0 {sc : bm_Sc} {Q : bm_O → bm_S → Prop} {x1 : Int} {x2 : Int} {ι : bm_S}
  (h : (bm_rg (ι 13 0 6 + x2)) ∧
    (if ι 13 0 6 + x2 ≤ (3000 : Int) then
      (if x1 = (0 : Int) then
        bC sc 173 [br 13 0] ι (bk1 (fun r1 ι1 => 
          (if r1 = (1 : Int) then
            bC sc 187 [br 13 0, bi 2, bi x2] ι1 (bk0 (fun ι4 => 
              bC sc 175 [br 13 0] ι4 (bk0 (fun ι5 => 
                bW sc 223 70 [br 13 0, bi x1, bi x2, bi 1, bi 0] [] ι5 Q) (bq Q))) (bq Q))
          else
            bC sc 187 [br 13 0, bi 3, bi x2] ι1 (bk0 (fun ι2 => 
              bC sc 216 [br 13 0, bi x2] ι2 (bk0 (fun ι3 => 
                Q (.inl none) ι3) (bq Q))) (bq Q)))) (bq Q))
      else
        bC sc 187 [br 13 0, bi 3, bi x2] ι (bk0 (fun ι6 => 
          bC sc 216 [br 13 0, bi x2] ι6 (bk0 (fun ι7 => 
            Q (.inl none) ι7) (bq Q))) (bq Q)))
    else
      bC sc 152 [br 13 0, bi 17] ι (bk0 (fun ι8 => 
        (if x1 = (0 : Int) then
          bC sc 173 [br 13 0] ι8 (bk1 (fun r9 ι9 => 
            (if r9 = (1 : Int) then
              bC sc 187 [br 13 0, bi 2, bi x2] ι9 (bk0 (fun ι12 => 
                bC sc 175 [br 13 0] ι12 (bk0 (fun ι13 => 
                  bW sc 223 70 [br 13 0, bi x1, bi x2, bi 1, bi 0] [] ι13 Q) (bq Q))) (bq Q))
            else
              bC sc 187 [br 13 0, bi 3, bi x2] ι9 (bk0 (fun ι10 => 
                bC sc 216 [br 13 0, bi x2] ι10 (bk0 (fun ι11 => 
                  Q (.inl none) ι11) (bq Q))) (bq Q)))) (bq Q))
        else
          bC sc 187 [br 13 0, bi 3, bi x2] ι8 (bk0 (fun ι14 => 
            bC sc 216 [br 13 0, bi x2] ι14 (bk0 (fun ι15 => 
              Q (.inl none) ι15) (bq Q))) (bq Q)))) (bq Q)))) :
  bC sc 223 [br 13 0, bi x1, bi x2] ι Q := bm_snd 223 [70] 32 h
set_option maxRecDepth 100000 in
theorem e_M_readPart_70 {sc : bm_Sc} {Q : bm_O → bm_S → Prop} {v1 : bm_V} {x2 : Int} {v3 : bm_V} {x4 : Int} {ι : bm_S}
  (h : (if x2 ≤ x4 then
      Q (.inl none) ι
    else
      bC sc 174 [br 13 0, bi 8] ι (bk1 (fun r1 ι1 => 
        bC sc 213 [br 13 0, bi r1] ι1 (bk0 (fun ι2 => 
          (bm_rg (x4 + 1)) ∧
          bW sc 223 70 [br 13 0, v1, bi x2, v3, bi (x4 + 1)] [] ι2 Q) (bq Q))) (bq Q)))) :
  bW sc 223 70 [br 13 0, v1, bi x2, v3, bi x4] [] ι Q := bm_snd 223 [70] 11 h
-- M_open
set_option maxRecDepth 100000 in
theorem e_M_open_0 {sc : bm_Sc} {Q : bm_O → bm_S → Prop}  {ι : bm_S}
  (h : bW sc 224 7 [br 13 0, bi 0, bu] [] (up ι 13 0 0 0) Q) :
  bC sc 224 [br 13 0] ι Q := bm_snd 224 [7, 83] 6 h
set_option maxRecDepth 100000 in
theorem e_M_open_7 {sc : bm_Sc} {Q : bm_O → bm_S → Prop} {x1 : Int} {v2 : bm_V} {ι : bm_S}
  (h : (if ι 13 0 3 ≤ x1 then
      bC sc 158 [br 13 0] (up ι 13 0 15 (ι 13 0 3)) (bk0 (fun ι1 => 
        ((0 : Int) = 0 ∨ (0 : Int) = 1) ∧
        bC sc 188 [br 13 0] (up (up (up (up ι1 13 0 16 0) 13 0 6 0) 13 0 19 0) 13 0 33 0) (bk0 (fun ι2 => 
          bC sc 222 [br 13 0] ι2 (bk0 (fun ι3 => 
            Q (.inl (some (bi (ι3 13 0 6)))) (up ι3 13 0 20 (ι3 13 0 16))) (fun e3 ι3 => bW sc 224 83 [br 13 0, bi 0, v2] [.inr (.inr e3)] ι3 Q))) (bq Q))) (bq Q))
    else
      (0 ≤ x1 ∧ x1 < (2440 : Int)) ∧
      (0 ≤ x1 ∧ x1 < (2440 : Int)) ∧
      (bm_rg (x1 + 1)) ∧
      bW sc 224 7 [br 13 0, bi (x1 + 1), v2] [] (up ι 74 0 x1 (bm_byte (ι 66 0 x1))) Q)) :
  bW sc 224 7 [br 13 0, bi x1, v2] [] ι Q := bm_snd 224 [7, 83] 38 h
set_option maxRecDepth 100000 in
theorem e_M_open_83 {sc : bm_Sc} {Q : bm_O → bm_S → Prop} {v1 : bm_V} {v2 : bm_V} {ι : bm_S}
  (h : (bm_rg ((-10) - ι 12 0 6)) ∧
    Q (.inl (some (bi ((-10) - ι 12 0 6)))) (up (up ι 13 0 6 0) 13 0 20 (ι 13 0 16))) :
  bW sc 224 83 [br 13 0, v1, v2] [br 12 0] ι Q := bm_snd 224 [7, 83] 15 h
-- M_pass
set_option maxRecDepth 100000 in
theorem e_M_pass_0 {sc : bm_Sc} {Q : bm_O → bm_S → Prop}  {ι : bm_S}
  (h : (if ι 13 0 6 ≤ (2400 : Int) then
      bC sc 158 [br 13 0] (up ι 13 0 0 0) (bk0 (fun ι1 => 
        bW sc 225 24 [br 13 0, bi 0] [] ι1 Q) (bq Q))
    else
      Q (.inl (some (bi (-3)))) (up ι 13 0 0 0))) :
  bC sc 225 [br 13 0] ι Q := bm_snd 225 [24] 12 h
set_option maxRecDepth 100000 in
theorem e_M_pass_24 {sc : bm_Sc} {Q : bm_O → bm_S → Prop} {x1 : Int} {ι : bm_S}
  (h : (if ι 13 0 6 ≤ x1 then
      Q (.inl (some (bi (ι 13 0 6)))) (up ι 13 0 3 (ι 13 0 6))
    else
      (0 ≤ x1 ∧ x1 < (9000 : Int)) ∧
      (0 ≤ x1 ∧ x1 < (2440 : Int)) ∧
      (bm_rg (x1 + 1)) ∧
      bW sc 225 24 [br 13 0, bi (x1 + 1)] [] (up ι 66 0 x1 (bm_byte (ι 67 0 x1))) Q)) :
  bW sc 225 24 [br 13 0, bi x1] [] ι Q := bm_snd 225 [24] 15 h
-- M_out
set_option maxRecDepth 100000 in
theorem e_M_out_0 {sc : bm_Sc} {Q : bm_O → bm_S → Prop} {x1 : Int} {ι : bm_S}
  (h : (bm_rg (ι 13 0 6 - 1)) ∧
    (if (if (0 : Int) ≤ x1 ∧ x1 ≤ ι 13 0 6 - 1 then (1 : Int) else 0) = (0 : Int) then
      Q (.inl (some (bi (-1)))) (up ι 13 0 0 0)
    else
      (0 ≤ x1 ∧ x1 < (9000 : Int)) ∧
      Q (.inl (some (bi (ι 67 0 x1 % 256)))) (up ι 13 0 0 0))) :
  bC sc 226 [br 13 0, bi x1] ι Q := bm_snd 226 [] 21 h
-- M_read
set_option maxRecDepth 100000 in
theorem e_M_read_0 {sc : bm_Sc} {Q : bm_O → bm_S → Prop}  {ι : bm_S}
  (h : Q (.inl (some (bi (ι 13 0 20)))) (up ι 13 0 0 0)) :
  bC sc 227 [br 13 0] ι Q := bm_snd 227 [] 6 h
-- M_part
set_option maxRecDepth 100000 in
theorem e_M_part_0 {sc : bm_Sc} {Q : bm_O → bm_S → Prop} {x1 : Int} {x2 : Int} {ι : bm_S}
  (h : (if (60 : Int) ≤ ι 13 0 19 then
      (bm_rg (60 - 1)) ∧
      (if (if (0 : Int) ≤ x1 ∧ x1 ≤ 60 - 1 then (1 : Int) else 0) = (0 : Int) then
        Q (.inl (some (bi (-1)))) (up ι 13 0 0 0)
      else
        (if (if (0 : Int) ≤ x2 ∧ x2 ≤ (11 : Int) then (1 : Int) else 0) = (0 : Int) then
          Q (.inl (some (bi (-1)))) (up ι 13 0 0 0)
        else
          (bm_rg (12 * x1)) ∧
          (bm_rg (12 * x1 + x2)) ∧
          (0 ≤ 12 * x1 + x2 ∧ 12 * x1 + x2 < (720 : Int)) ∧
          Q (.inl (some (bi (ι 76 0 (12 * x1 + x2))))) (up ι 13 0 0 0)))
    else
      (bm_rg (ι 13 0 19 - 1)) ∧
      (if (if (0 : Int) ≤ x1 ∧ x1 ≤ ι 13 0 19 - 1 then (1 : Int) else 0) = (0 : Int) then
        Q (.inl (some (bi (-1)))) (up ι 13 0 0 0)
      else
        (if (if (0 : Int) ≤ x2 ∧ x2 ≤ (11 : Int) then (1 : Int) else 0) = (0 : Int) then
          Q (.inl (some (bi (-1)))) (up ι 13 0 0 0)
        else
          (bm_rg (12 * x1)) ∧
          (bm_rg (12 * x1 + x2)) ∧
          (0 ≤ 12 * x1 + x2 ∧ 12 * x1 + x2 < (720 : Int)) ∧
          Q (.inl (some (bi (ι 76 0 (12 * x1 + x2))))) (up ι 13 0 0 0))))) :
  bC sc 228 [br 13 0, bi x1, bi x2] ι Q := bm_snd 228 [] 34 h
-- M_ring
set_option maxRecDepth 100000 in
theorem e_M_ring_0 {sc : bm_Sc} {Q : bm_O → bm_S → Prop} {x1 : Int} {ι : bm_S}
  (h : (if (if (0 : Int) ≤ x1 ∧ x1 ≤ (3 : Int) then (1 : Int) else 0) = (0 : Int) then
      Q (.inl (some (bi (-1)))) (up ι 13 0 0 0)
    else
      (bm_rg (3 - x1)) ∧
      (0 ≤ 3 - x1 ∧ 3 - x1 < (4 : Int)) ∧
      Q (.inl (some (bi (ι 77 0 (3 - x1))))) (up ι 13 0 0 0))) :
  bC sc 229 [br 13 0, bi x1] ι Q := bm_snd 229 [] 17 h
-- M_map
set_option maxRecDepth 100000 in
theorem e_M_map_0 {sc : bm_Sc} {Q : bm_O → bm_S → Prop} {x1 : Int} {x2 : Int} {ι : bm_S}
  (h : (if ι 13 0 33 = (0 : Int) then
      Q (.inl (some (bi (-1)))) (up ι 13 0 0 0)
    else
      (if (if (0 : Int) ≤ x1 ∧ x1 ≤ (1 : Int) then (1 : Int) else 0) = (0 : Int) then
        Q (.inl (some (bi (-1)))) (up ι 13 0 0 0)
      else
        (if x1 = (0 : Int) then
          (0 ≤ (0 : Int) ∧ (0 : Int) < (3 : Int)) ∧
          (bm_rg (64 * ι 85 0 0)) ∧
          (bm_rg (64 * ι 85 0 0 - 1)) ∧
          (if (if (0 : Int) ≤ x2 ∧ x2 ≤ 64 * ι 85 0 0 - 1 then (1 : Int) else 0) = (0 : Int) then
            Q (.inl (some (bi (-1)))) (up ι 13 0 0 0)
          else
            (if x1 = (0 : Int) then
              (0 ≤ x2 ∧ x2 < (768 : Int)) ∧
              Q (.inl (some (bi (ι 87 0 x2)))) (up ι 13 0 0 0)
            else
              (0 ≤ x2 ∧ x2 < (48 : Int)) ∧
              Q (.inl (some (bi (ι 88 0 x2)))) (up ι 13 0 0 0)))
        else
          (0 ≤ (2 : Int) ∧ (2 : Int) < (3 : Int)) ∧
          (bm_rg (4 * ι 85 0 2)) ∧
          (bm_rg (4 * ι 85 0 2 - 1)) ∧
          (if (if (0 : Int) ≤ x2 ∧ x2 ≤ 4 * ι 85 0 2 - 1 then (1 : Int) else 0) = (0 : Int) then
            Q (.inl (some (bi (-1)))) (up ι 13 0 0 0)
          else
            (if x1 = (0 : Int) then
              (0 ≤ x2 ∧ x2 < (768 : Int)) ∧
              Q (.inl (some (bi (ι 87 0 x2)))) (up ι 13 0 0 0)
            else
              (0 ≤ x2 ∧ x2 < (48 : Int)) ∧
              Q (.inl (some (bi (ι 88 0 x2)))) (up ι 13 0 0 0))))))) :
  bC sc 230 [br 13 0, bi x1, bi x2] ι Q := bm_snd 230 [] 37 h
-- M_length
set_option maxRecDepth 100000 in
theorem e_M_length_0 {sc : bm_Sc} {Q : bm_O → bm_S → Prop} {x1 : Int} {x2 : Int} {x3 : Int} {ι : bm_S}
  (h : (if ι 13 0 33 = (0 : Int) then
      bW sc 231 24 [br 13 0, bi x1, bi x2, bi x3, bu, bu, bu] [] (up ι 13 0 0 0) Q
    else
      (if (if (0 : Int) ≤ x1 ∧ x1 ≤ (2 : Int) then (1 : Int) else 0) = (0 : Int) then
        bW sc 231 24 [br 13 0, bi x1, bi x2, bi x3, bu, bu, bu] [] (up ι 13 0 0 0) Q
      else
        (if x1 = (0 : Int) then
          (if x1 = (0 : Int) then
            (bm_rg (ι 13 0 35 - 1)) ∧
            (if (if (0 : Int) ≤ x2 ∧ x2 ≤ ι 13 0 35 - 1 then (1 : Int) else 0) = (0 : Int) then
              bW sc 231 112 [br 13 0, bi x1, bi x2, bi x3, bi (ι 13 0 35), bi 256, bu] [] (up ι 13 0 0 0) Q
            else
              (bm_rg (256 - 1)) ∧
              (if (if (0 : Int) ≤ x3 ∧ x3 ≤ 256 - 1 then (1 : Int) else 0) = (0 : Int) then
                bW sc 231 112 [br 13 0, bi x1, bi x2, bi x3, bi (ι 13 0 35), bi 256, bu] [] (up ι 13 0 0 0) Q
              else
                (if x1 = (0 : Int) then
                  (bm_rg (256 * x2)) ∧
                  (bm_rg (120 + 256 * x2)) ∧
                  (bm_rg (120 + 256 * x2 + x3)) ∧
                  (0 ≤ 120 + 256 * x2 + x3 ∧ 120 + 256 * x2 + x3 < (18000 : Int)) ∧
                  Q (.inl (some (bi (ι 86 0 (120 + 256 * x2 + x3))))) (up ι 13 0 0 0)
                else
                  (if x1 = (1 : Int) then
                    (bm_rg (704 * x2)) ∧
                    (bm_rg (3192 + 704 * x2)) ∧
                    (bm_rg (3192 + 704 * x2 + x3)) ∧
                    (0 ≤ 3192 + 704 * x2 + x3 ∧ 3192 + 704 * x2 + x3 < (18000 : Int)) ∧
                    Q (.inl (some (bi (ι 86 0 (3192 + 704 * x2 + x3))))) (up ι 13 0 0 0)
                  else
                    (bm_rg (520 * x2)) ∧
                    (bm_rg (11640 + 520 * x2)) ∧
                    (bm_rg (11640 + 520 * x2 + x3)) ∧
                    (0 ≤ 11640 + 520 * x2 + x3 ∧ 11640 + 520 * x2 + x3 < (18000 : Int)) ∧
                    Q (.inl (some (bi (ι 86 0 (11640 + 520 * x2 + x3))))) (up ι 13 0 0 0)))))
          else
            (if x1 = (1 : Int) then
              (bm_rg (ι 13 0 35 - 1)) ∧
              (if (if (0 : Int) ≤ x2 ∧ x2 ≤ ι 13 0 35 - 1 then (1 : Int) else 0) = (0 : Int) then
                bW sc 231 112 [br 13 0, bi x1, bi x2, bi x3, bi (ι 13 0 35), bi 704, bu] [] (up ι 13 0 0 0) Q
              else
                (bm_rg (704 - 1)) ∧
                (if (if (0 : Int) ≤ x3 ∧ x3 ≤ 704 - 1 then (1 : Int) else 0) = (0 : Int) then
                  bW sc 231 112 [br 13 0, bi x1, bi x2, bi x3, bi (ι 13 0 35), bi 704, bu] [] (up ι 13 0 0 0) Q
                else
                  (if x1 = (0 : Int) then
                    (bm_rg (256 * x2)) ∧
                    (bm_rg (120 + 256 * x2)) ∧
                    (bm_rg (120 + 256 * x2 + x3)) ∧
                    (0 ≤ 120 + 256 * x2 + x3 ∧ 120 + 256 * x2 + x3 < (18000 : Int)) ∧
                    Q (.inl (some (bi (ι 86 0 (120 + 256 * x2 + x3))))) (up ι 13 0 0 0)
                  else
                    (if x1 = (1 : Int) then
                      (bm_rg (704 * x2)) ∧
                      (bm_rg (3192 + 704 * x2)) ∧
                      (bm_rg (3192 + 704 * x2 + x3)) ∧
                      (0 ≤ 3192 + 704 * x2 + x3 ∧ 3192 + 704 * x2 + x3 < (18000 : Int)) ∧
                      Q (.inl (some (bi (ι 86 0 (3192 + 704 * x2 + x3))))) (up ι 13 0 0 0)
                    else
                      (bm_rg (520 * x2)) ∧
                      (bm_rg (11640 + 520 * x2)) ∧
                      (bm_rg (11640 + 520 * x2 + x3)) ∧
                      (0 ≤ 11640 + 520 * x2 + x3 ∧ 11640 + 520 * x2 + x3 < (18000 : Int)) ∧
                      Q (.inl (some (bi (ι 86 0 (11640 + 520 * x2 + x3))))) (up ι 13 0 0 0)))))
            else
              (bm_rg (ι 13 0 35 - 1)) ∧
              (if (if (0 : Int) ≤ x2 ∧ x2 ≤ ι 13 0 35 - 1 then (1 : Int) else 0) = (0 : Int) then
                bW sc 231 112 [br 13 0, bi x1, bi x2, bi x3, bi (ι 13 0 35), bi (ι 13 0 37), bu] [] (up ι 13 0 0 0) Q
              else
                (bm_rg (ι 13 0 37 - 1)) ∧
                (if (if (0 : Int) ≤ x3 ∧ x3 ≤ ι 13 0 37 - 1 then (1 : Int) else 0) = (0 : Int) then
                  bW sc 231 112 [br 13 0, bi x1, bi x2, bi x3, bi (ι 13 0 35), bi (ι 13 0 37), bu] [] (up ι 13 0 0 0) Q
                else
                  (if x1 = (0 : Int) then
                    (bm_rg (256 * x2)) ∧
                    (bm_rg (120 + 256 * x2)) ∧
                    (bm_rg (120 + 256 * x2 + x3)) ∧
                    (0 ≤ 120 + 256 * x2 + x3 ∧ 120 + 256 * x2 + x3 < (18000 : Int)) ∧
                    Q (.inl (some (bi (ι 86 0 (120 + 256 * x2 + x3))))) (up ι 13 0 0 0)
                  else
                    (if x1 = (1 : Int) then
                      (bm_rg (704 * x2)) ∧
                      (bm_rg (3192 + 704 * x2)) ∧
                      (bm_rg (3192 + 704 * x2 + x3)) ∧
                      (0 ≤ 3192 + 704 * x2 + x3 ∧ 3192 + 704 * x2 + x3 < (18000 : Int)) ∧
                      Q (.inl (some (bi (ι 86 0 (3192 + 704 * x2 + x3))))) (up ι 13 0 0 0)
                    else
                      (bm_rg (520 * x2)) ∧
                      (bm_rg (11640 + 520 * x2)) ∧
                      (bm_rg (11640 + 520 * x2 + x3)) ∧
                      (0 ≤ 11640 + 520 * x2 + x3 ∧ 11640 + 520 * x2 + x3 < (18000 : Int)) ∧
                      Q (.inl (some (bi (ι 86 0 (11640 + 520 * x2 + x3))))) (up ι 13 0 0 0)))))))
        else
          (if x1 = (1 : Int) then
            (0 ≤ (1 : Int) ∧ (1 : Int) < (3 : Int)) ∧
            (if x1 = (0 : Int) then
              (bm_rg (ι 85 0 1 - 1)) ∧
              (if (if (0 : Int) ≤ x2 ∧ x2 ≤ ι 85 0 1 - 1 then (1 : Int) else 0) = (0 : Int) then
                bW sc 231 112 [br 13 0, bi x1, bi x2, bi x3, bi (ι 85 0 1), bi 256, bu] [] (up ι 13 0 0 0) Q
              else
                (bm_rg (256 - 1)) ∧
                (if (if (0 : Int) ≤ x3 ∧ x3 ≤ 256 - 1 then (1 : Int) else 0) = (0 : Int) then
                  bW sc 231 112 [br 13 0, bi x1, bi x2, bi x3, bi (ι 85 0 1), bi 256, bu] [] (up ι 13 0 0 0) Q
                else
                  (if x1 = (0 : Int) then
                    (bm_rg (256 * x2)) ∧
                    (bm_rg (120 + 256 * x2)) ∧
                    (bm_rg (120 + 256 * x2 + x3)) ∧
                    (0 ≤ 120 + 256 * x2 + x3 ∧ 120 + 256 * x2 + x3 < (18000 : Int)) ∧
                    Q (.inl (some (bi (ι 86 0 (120 + 256 * x2 + x3))))) (up ι 13 0 0 0)
                  else
                    (if x1 = (1 : Int) then
                      (bm_rg (704 * x2)) ∧
                      (bm_rg (3192 + 704 * x2)) ∧
                      (bm_rg (3192 + 704 * x2 + x3)) ∧
                      (0 ≤ 3192 + 704 * x2 + x3 ∧ 3192 + 704 * x2 + x3 < (18000 : Int)) ∧
                      Q (.inl (some (bi (ι 86 0 (3192 + 704 * x2 + x3))))) (up ι 13 0 0 0)
                    else
                      (bm_rg (520 * x2)) ∧
                      (bm_rg (11640 + 520 * x2)) ∧
                      (bm_rg (11640 + 520 * x2 + x3)) ∧
                      (0 ≤ 11640 + 520 * x2 + x3 ∧ 11640 + 520 * x2 + x3 < (18000 : Int)) ∧
                      Q (.inl (some (bi (ι 86 0 (11640 + 520 * x2 + x3))))) (up ι 13 0 0 0)))))
            else
              (if x1 = (1 : Int) then
                (bm_rg (ι 85 0 1 - 1)) ∧
                (if (if (0 : Int) ≤ x2 ∧ x2 ≤ ι 85 0 1 - 1 then (1 : Int) else 0) = (0 : Int) then
                  bW sc 231 112 [br 13 0, bi x1, bi x2, bi x3, bi (ι 85 0 1), bi 704, bu] [] (up ι 13 0 0 0) Q
                else
                  (bm_rg (704 - 1)) ∧
                  (if (if (0 : Int) ≤ x3 ∧ x3 ≤ 704 - 1 then (1 : Int) else 0) = (0 : Int) then
                    bW sc 231 112 [br 13 0, bi x1, bi x2, bi x3, bi (ι 85 0 1), bi 704, bu] [] (up ι 13 0 0 0) Q
                  else
                    (if x1 = (0 : Int) then
                      (bm_rg (256 * x2)) ∧
                      (bm_rg (120 + 256 * x2)) ∧
                      (bm_rg (120 + 256 * x2 + x3)) ∧
                      (0 ≤ 120 + 256 * x2 + x3 ∧ 120 + 256 * x2 + x3 < (18000 : Int)) ∧
                      Q (.inl (some (bi (ι 86 0 (120 + 256 * x2 + x3))))) (up ι 13 0 0 0)
                    else
                      (if x1 = (1 : Int) then
                        (bm_rg (704 * x2)) ∧
                        (bm_rg (3192 + 704 * x2)) ∧
                        (bm_rg (3192 + 704 * x2 + x3)) ∧
                        (0 ≤ 3192 + 704 * x2 + x3 ∧ 3192 + 704 * x2 + x3 < (18000 : Int)) ∧
                        Q (.inl (some (bi (ι 86 0 (3192 + 704 * x2 + x3))))) (up ι 13 0 0 0)
                      else
                        (bm_rg (520 * x2)) ∧
                        (bm_rg (11640 + 520 * x2)) ∧
                        (bm_rg (11640 + 520 * x2 + x3)) ∧
                        (0 ≤ 11640 + 520 * x2 + x3 ∧ 11640 + 520 * x2 + x3 < (18000 : Int)) ∧
                        Q (.inl (some (bi (ι 86 0 (11640 + 520 * x2 + x3))))) (up ι 13 0 0 0)))))
              else
                (bm_rg (ι 85 0 1 - 1)) ∧
                (if (if (0 : Int) ≤ x2 ∧ x2 ≤ ι 85 0 1 - 1 then (1 : Int) else 0) = (0 : Int) then
                  bW sc 231 112 [br 13 0, bi x1, bi x2, bi x3, bi (ι 85 0 1), bi (ι 13 0 37), bu] [] (up ι 13 0 0 0) Q
                else
                  (bm_rg (ι 13 0 37 - 1)) ∧
                  (if (if (0 : Int) ≤ x3 ∧ x3 ≤ ι 13 0 37 - 1 then (1 : Int) else 0) = (0 : Int) then
                    bW sc 231 112 [br 13 0, bi x1, bi x2, bi x3, bi (ι 85 0 1), bi (ι 13 0 37), bu] [] (up ι 13 0 0 0) Q
                  else
                    (if x1 = (0 : Int) then
                      (bm_rg (256 * x2)) ∧
                      (bm_rg (120 + 256 * x2)) ∧
                      (bm_rg (120 + 256 * x2 + x3)) ∧
                      (0 ≤ 120 + 256 * x2 + x3 ∧ 120 + 256 * x2 + x3 < (18000 : Int)) ∧
                      Q (.inl (some (bi (ι 86 0 (120 + 256 * x2 + x3))))) (up ι 13 0 0 0)
                    else
                      (if x1 = (1 : Int) then
                        (bm_rg (704 * x2)) ∧
                        (bm_rg (3192 + 704 * x2)) ∧
                        (bm_rg (3192 + 704 * x2 + x3)) ∧
                        (0 ≤ 3192 + 704 * x2 + x3 ∧ 3192 + 704 * x2 + x3 < (18000 : Int)) ∧
                        Q (.inl (some (bi (ι 86 0 (3192 + 704 * x2 + x3))))) (up ι 13 0 0 0)
                      else
                        (bm_rg (520 * x2)) ∧
                        (bm_rg (11640 + 520 * x2)) ∧
                        (bm_rg (11640 + 520 * x2 + x3)) ∧
                        (0 ≤ 11640 + 520 * x2 + x3 ∧ 11640 + 520 * x2 + x3 < (18000 : Int)) ∧
                        Q (.inl (some (bi (ι 86 0 (11640 + 520 * x2 + x3))))) (up ι 13 0 0 0)))))))
          else
            (if x1 = (0 : Int) then
              (bm_rg (ι 13 0 36 - 1)) ∧
              (if (if (0 : Int) ≤ x2 ∧ x2 ≤ ι 13 0 36 - 1 then (1 : Int) else 0) = (0 : Int) then
                bW sc 231 112 [br 13 0, bi x1, bi x2, bi x3, bi (ι 13 0 36), bi 256, bu] [] (up ι 13 0 0 0) Q
              else
                (bm_rg (256 - 1)) ∧
                (if (if (0 : Int) ≤ x3 ∧ x3 ≤ 256 - 1 then (1 : Int) else 0) = (0 : Int) then
                  bW sc 231 112 [br 13 0, bi x1, bi x2, bi x3, bi (ι 13 0 36), bi 256, bu] [] (up ι 13 0 0 0) Q
                else
                  (if x1 = (0 : Int) then
                    (bm_rg (256 * x2)) ∧
                    (bm_rg (120 + 256 * x2)) ∧
                    (bm_rg (120 + 256 * x2 + x3)) ∧
                    (0 ≤ 120 + 256 * x2 + x3 ∧ 120 + 256 * x2 + x3 < (18000 : Int)) ∧
                    Q (.inl (some (bi (ι 86 0 (120 + 256 * x2 + x3))))) (up ι 13 0 0 0)
                  else
                    (if x1 = (1 : Int) then
                      (bm_rg (704 * x2)) ∧
                      (bm_rg (3192 + 704 * x2)) ∧
                      (bm_rg (3192 + 704 * x2 + x3)) ∧
                      (0 ≤ 3192 + 704 * x2 + x3 ∧ 3192 + 704 * x2 + x3 < (18000 : Int)) ∧
                      Q (.inl (some (bi (ι 86 0 (3192 + 704 * x2 + x3))))) (up ι 13 0 0 0)
                    else
                      (bm_rg (520 * x2)) ∧
                      (bm_rg (11640 + 520 * x2)) ∧
                      (bm_rg (11640 + 520 * x2 + x3)) ∧
                      (0 ≤ 11640 + 520 * x2 + x3 ∧ 11640 + 520 * x2 + x3 < (18000 : Int)) ∧
                      Q (.inl (some (bi (ι 86 0 (11640 + 520 * x2 + x3))))) (up ι 13 0 0 0)))))
            else
              (if x1 = (1 : Int) then
                (bm_rg (ι 13 0 36 - 1)) ∧
                (if (if (0 : Int) ≤ x2 ∧ x2 ≤ ι 13 0 36 - 1 then (1 : Int) else 0) = (0 : Int) then
                  bW sc 231 112 [br 13 0, bi x1, bi x2, bi x3, bi (ι 13 0 36), bi 704, bu] [] (up ι 13 0 0 0) Q
                else
                  (bm_rg (704 - 1)) ∧
                  (if (if (0 : Int) ≤ x3 ∧ x3 ≤ 704 - 1 then (1 : Int) else 0) = (0 : Int) then
                    bW sc 231 112 [br 13 0, bi x1, bi x2, bi x3, bi (ι 13 0 36), bi 704, bu] [] (up ι 13 0 0 0) Q
                  else
                    (if x1 = (0 : Int) then
                      (bm_rg (256 * x2)) ∧
                      (bm_rg (120 + 256 * x2)) ∧
                      (bm_rg (120 + 256 * x2 + x3)) ∧
                      (0 ≤ 120 + 256 * x2 + x3 ∧ 120 + 256 * x2 + x3 < (18000 : Int)) ∧
                      Q (.inl (some (bi (ι 86 0 (120 + 256 * x2 + x3))))) (up ι 13 0 0 0)
                    else
                      (if x1 = (1 : Int) then
                        (bm_rg (704 * x2)) ∧
                        (bm_rg (3192 + 704 * x2)) ∧
                        (bm_rg (3192 + 704 * x2 + x3)) ∧
                        (0 ≤ 3192 + 704 * x2 + x3 ∧ 3192 + 704 * x2 + x3 < (18000 : Int)) ∧
                        Q (.inl (some (bi (ι 86 0 (3192 + 704 * x2 + x3))))) (up ι 13 0 0 0)
                      else
                        (bm_rg (520 * x2)) ∧
                        (bm_rg (11640 + 520 * x2)) ∧
                        (bm_rg (11640 + 520 * x2 + x3)) ∧
                        (0 ≤ 11640 + 520 * x2 + x3 ∧ 11640 + 520 * x2 + x3 < (18000 : Int)) ∧
                        Q (.inl (some (bi (ι 86 0 (11640 + 520 * x2 + x3))))) (up ι 13 0 0 0)))))
              else
                (bm_rg (ι 13 0 36 - 1)) ∧
                (if (if (0 : Int) ≤ x2 ∧ x2 ≤ ι 13 0 36 - 1 then (1 : Int) else 0) = (0 : Int) then
                  bW sc 231 112 [br 13 0, bi x1, bi x2, bi x3, bi (ι 13 0 36), bi (ι 13 0 37), bu] [] (up ι 13 0 0 0) Q
                else
                  (bm_rg (ι 13 0 37 - 1)) ∧
                  (if (if (0 : Int) ≤ x3 ∧ x3 ≤ ι 13 0 37 - 1 then (1 : Int) else 0) = (0 : Int) then
                    bW sc 231 112 [br 13 0, bi x1, bi x2, bi x3, bi (ι 13 0 36), bi (ι 13 0 37), bu] [] (up ι 13 0 0 0) Q
                  else
                    (if x1 = (0 : Int) then
                      (bm_rg (256 * x2)) ∧
                      (bm_rg (120 + 256 * x2)) ∧
                      (bm_rg (120 + 256 * x2 + x3)) ∧
                      (0 ≤ 120 + 256 * x2 + x3 ∧ 120 + 256 * x2 + x3 < (18000 : Int)) ∧
                      Q (.inl (some (bi (ι 86 0 (120 + 256 * x2 + x3))))) (up ι 13 0 0 0)
                    else
                      (if x1 = (1 : Int) then
                        (bm_rg (704 * x2)) ∧
                        (bm_rg (3192 + 704 * x2)) ∧
                        (bm_rg (3192 + 704 * x2 + x3)) ∧
                        (0 ≤ 3192 + 704 * x2 + x3 ∧ 3192 + 704 * x2 + x3 < (18000 : Int)) ∧
                        Q (.inl (some (bi (ι 86 0 (3192 + 704 * x2 + x3))))) (up ι 13 0 0 0)
                      else
                        (bm_rg (520 * x2)) ∧
                        (bm_rg (11640 + 520 * x2)) ∧
                        (bm_rg (11640 + 520 * x2 + x3)) ∧
                        (0 ≤ 11640 + 520 * x2 + x3 ∧ 11640 + 520 * x2 + x3 < (18000 : Int)) ∧
                        Q (.inl (some (bi (ι 86 0 (11640 + 520 * x2 + x3))))) (up ι 13 0 0 0)))))))))))) :
  bC sc 231 [br 13 0, bi x1, bi x2, bi x3] ι Q := bm_snd 231 [24, 112] 68 h
set_option maxRecDepth 100000 in
theorem e_M_length_24 {sc : bm_Sc} {Q : bm_O → bm_S → Prop} {v0 : bm_V} {v1 : bm_V} {v2 : bm_V} {v3 : bm_V} {v4 : bm_V} {v5 : bm_V} {v6 : bm_V} {ι : bm_S}
  (h : Q (.inl (some (bi (-1)))) ι) :
  bW sc 231 24 [v0, v1, v2, v3, v4, v5, v6] [] ι Q := bm_snd 231 [24, 112] 2 h
set_option maxRecDepth 100000 in
theorem e_M_length_112 {sc : bm_Sc} {Q : bm_O → bm_S → Prop} {v0 : bm_V} {v1 : bm_V} {v2 : bm_V} {v3 : bm_V} {v4 : bm_V} {v5 : bm_V} {v6 : bm_V} {ι : bm_S}
  (h : Q (.inl (some (bi (-1)))) ι) :
  bW sc 231 112 [v0, v1, v2, v3, v4, v5, v6] [] ι Q := bm_snd 231 [24, 112] 2 h
-- M_command
set_option maxRecDepth 100000 in
theorem e_M_command_0 {sc : bm_Sc} {Q : bm_O → bm_S → Prop} {x1 : Int} {x2 : Int} {ι : bm_S}
  (h : (bm_rg (ι 13 0 63 - 1)) ∧
    (if (if (0 : Int) ≤ x1 ∧ x1 ≤ ι 13 0 63 - 1 then (1 : Int) else 0) = (0 : Int) then
      Q (.inl (some (bi (-1)))) (up ι 13 0 0 0)
    else
      (if (if (0 : Int) ≤ x2 ∧ x2 ≤ (3 : Int) then (1 : Int) else 0) = (0 : Int) then
        Q (.inl (some (bi (-1)))) (up ι 13 0 0 0)
      else
        (bm_rg (4 * x1)) ∧
        (bm_rg (4 * x1 + x2)) ∧
        (0 ≤ 4 * x1 + x2 ∧ 4 * x1 + x2 < (8100 : Int)) ∧
        Q (.inl (some (bi (ι 104 0 (4 * x1 + x2))))) (up ι 13 0 0 0)))) :
  bC sc 232 [br 13 0, bi x1, bi x2] ι Q := bm_snd 232 [] 29 h
-- M_count
set_option maxRecDepth 100000 in
theorem e_M_count_0 {sc : bm_Sc} {Q : bm_O → bm_S → Prop} {x1 : Int} {ι : bm_S}
  (h : (if x1 = 0 then
      bC sc 162 [br 13 0] (up ι 13 0 0 0) (bk1 (fun r1 ι1 => 
        Q (.inl (some (bi r1))) ι1) (bq Q))
    else
      (if x1 = 1 then
        Q (.inl (some (bi (ι 13 0 3)))) (up ι 13 0 0 0)
      else
        (if x1 = 2 then
          Q (.inl (some (bi (ι 13 0 6)))) (up ι 13 0 0 0)
        else
          (if x1 = 3 then
            Q (.inl (some (bi (ι 13 0 19)))) (up ι 13 0 0 0)
          else
            (if x1 = 4 then
              Q (.inl (some (bi (ι 13 0 63)))) (up ι 13 0 0 0)
            else
              Q (.inl (some (bi (-1)))) (up ι 13 0 0 0))))))) :
  bC sc 233 [br 13 0, bi x1] ι Q := bm_snd 233 [] 8 h
-- M_write
set_option maxRecDepth 100000 in
theorem e_M_write_0 {sc : bm_Sc} {Q : bm_O → bm_S → Prop} {x1 : Int} {x2 : Int} {ι : bm_S}
  (h : bW sc 234 2 [br 13 0, bi x1, bi x2, bi 0] [] ι Q) :
  bC sc 234 [br 13 0, bi x1, bi x2] ι Q := bm_snd 234 [2] 3 h
set_option maxRecDepth 100000 in
theorem e_M_write_2 {sc : bm_Sc} {Q : bm_O → bm_S → Prop} {x1 : Int} {x2 : Int} {x3 : Int} {ι : bm_S}
  (h : (if x2 ≤ x3 then
      Q (.inl none) ι
    else
      (0 ≤ ι 13 0 43 ∧ 0 < (8 : Int)) ∧
      (if ι 13 0 43 % 8 = (0 : Int) then
        (0 ≤ ι 13 0 6 ∧ ι 13 0 6 < (9000 : Int)) ∧
        (bm_rg (ι 13 0 6 + 1)) ∧
        (0 ≤ x3 ∧ x3 < 32) ∧
        (if x1 / bm_p2 x3 % 2 = (1 : Int) then
          (bm_rg (ι 13 0 6 + 1 - 1)) ∧
          (bm_rg (ι 13 0 6 + 1 - 1)) ∧
          (0 ≤ ι 13 0 6 + 1 - 1 ∧ ι 13 0 6 + 1 - 1 < (9000 : Int)) ∧
          (0 ≤ ι 13 0 43 ∧ 0 < (8 : Int)) ∧
          ((0 ≤ ι 13 0 43 % 8 ∧ ι 13 0 43 % 8 < 32) ∧ bm_rg (1 * bm_p2 (ι 13 0 43 % 8))) ∧
          (0 ≤ ι 13 0 6 + 1 - 1 ∧ ι 13 0 6 + 1 - 1 < (9000 : Int)) ∧
          (bm_rg (ι 13 0 43 + 1)) ∧
          (bm_rg (x3 + 1)) ∧
          bW sc 234 2 [br 13 0, bi x1, bi x2, bi (x3 + 1)] [] (up (up (up (up ι 67 0 (ι 13 0 6) (bm_byte 0)) 13 0 6 (ι 13 0 6 + 1)) 67 0 (ι 13 0 6 + 1 - 1) (bm_byte (bm_byte (bm_or ((up ι 67 0 (ι 13 0 6) (bm_byte 0)) 67 0 (ι 13 0 6 + 1 - 1)) (1 * bm_p2 (ι 13 0 43 % 8)))))) 13 0 43 (ι 13 0 43 + 1)) Q
        else
          (bm_rg (ι 13 0 43 + 1)) ∧
          (bm_rg (x3 + 1)) ∧
          bW sc 234 2 [br 13 0, bi x1, bi x2, bi (x3 + 1)] [] (up (up (up ι 67 0 (ι 13 0 6) (bm_byte 0)) 13 0 6 (ι 13 0 6 + 1)) 13 0 43 (ι 13 0 43 + 1)) Q)
      else
        (0 ≤ x3 ∧ x3 < 32) ∧
        (if x1 / bm_p2 x3 % 2 = (1 : Int) then
          (bm_rg (ι 13 0 6 - 1)) ∧
          (bm_rg (ι 13 0 6 - 1)) ∧
          (0 ≤ ι 13 0 6 - 1 ∧ ι 13 0 6 - 1 < (9000 : Int)) ∧
          (0 ≤ ι 13 0 43 ∧ 0 < (8 : Int)) ∧
          ((0 ≤ ι 13 0 43 % 8 ∧ ι 13 0 43 % 8 < 32) ∧ bm_rg (1 * bm_p2 (ι 13 0 43 % 8))) ∧
          (0 ≤ ι 13 0 6 - 1 ∧ ι 13 0 6 - 1 < (9000 : Int)) ∧
          (bm_rg (ι 13 0 43 + 1)) ∧
          (bm_rg (x3 + 1)) ∧
          bW sc 234 2 [br 13 0, bi x1, bi x2, bi (x3 + 1)] [] (up (up ι 67 0 (ι 13 0 6 - 1) (bm_byte (bm_byte (bm_or (ι 67 0 (ι 13 0 6 - 1)) (1 * bm_p2 (ι 13 0 43 % 8)))))) 13 0 43 (ι 13 0 43 + 1)) Q
        else
          (bm_rg (ι 13 0 43 + 1)) ∧
          (bm_rg (x3 + 1)) ∧
          bW sc 234 2 [br 13 0, bi x1, bi x2, bi (x3 + 1)] [] (up ι 13 0 43 (ι 13 0 43 + 1)) Q)))) :
  bW sc 234 2 [br 13 0, bi x1, bi x2, bi x3] [] ι Q := bm_snd 234 [2] 58 h
-- M_writeToByte
set_option maxRecDepth 100000 in
theorem e_M_writeToByte_0 {sc : bm_Sc} {Q : bm_O → bm_S → Prop}  {ι : bm_S}
  (h : (bm_rg (8 * ι 13 0 6)) ∧
    Q (.inl none) (up ι 13 0 43 (8 * ι 13 0 6))) :
  bC sc 235 [br 13 0] ι Q := bm_snd 235 [] 7 h
-- M_writeSign
set_option maxRecDepth 100000 in
theorem e_M_writeSign_0 {sc : bm_Sc} {Q : bm_O → bm_S → Prop} {x1 : Int} {x2 : Int} {ι : bm_S}
  (h : (0 ≤ x1 ∧ x1 < (18000 : Int)) ∧
    (if ι 73 0 x1 < (0 : Int) then
      (bm_rg (x1 + x2)) ∧
      (0 ≤ x1 + x2 ∧ x1 + x2 < (18000 : Int)) ∧
      (bm_rg (ι 71 0 (x1 + x2) - 1)) ∧
      bW sc 236 27 [br 13 0, bi x1, bi x2, bi (ι 71 0 (x1 + x2)), bi (ι 71 0 (x1 + x2) - 1)] [] ι Q
    else
      (bm_rg (0 - 1)) ∧
      bW sc 236 27 [br 13 0, bi x1, bi x2, bi 0, bi (0 - 1)] [] ι Q)) :
  bC sc 236 [br 13 0, bi x1, bi x2] ι Q := bm_snd 236 [27] 17 h
set_option maxRecDepth 100000 in
theorem e_M_writeSign_27 {sc : bm_Sc} {Q : bm_O → bm_S → Prop} {x1 : Int} {x2 : Int} {v3 : bm_V} {x4 : Int} {ι : bm_S}
  (h : (if x4 < (0 : Int) then
      Q (.inl none) ι
    else
      (bm_rg (x1 + x2)) ∧
      (0 ≤ x1 + x2 ∧ x1 + x2 < (18000 : Int)) ∧
      (0 ≤ x4 ∧ x4 < 32) ∧
      bC sc 234 [br 13 0, bi (ι 72 0 (x1 + x2) / bm_p2 x4 % 2), bi 1] ι (bk0 (fun ι1 => 
        (bm_rg (x4 + (-1))) ∧
        bW sc 236 27 [br 13 0, bi x1, bi x2, v3, bi (x4 + (-1))] [] ι1 Q) (bq Q)))) :
  bW sc 236 27 [br 13 0, bi x1, bi x2, v3, bi x4] [] ι Q := bm_snd 236 [27] 18 h
-- M_leastOpen
set_option maxRecDepth 100000 in
theorem e_M_leastOpen_0 {sc : bm_Sc} {Q : bm_O → bm_S → Prop} {x1 : Int} {ι : bm_S}
  (h : bW sc 237 4 [br 13 0, bi x1, bi (-1), bi 0] [] ι Q) :
  bC sc 237 [br 13 0, bi x1] ι Q := bm_snd 237 [4] 5 h
set_option maxRecDepth 100000 in
theorem e_M_leastOpen_4 {sc : bm_Sc} {Q : bm_O → bm_S → Prop} {x1 : Int} {x2 : Int} {x3 : Int} {ι : bm_S}
  (h : (if x1 ≤ x3 then
      Q (.inl (some (bi x2))) ι
    else
      (0 ≤ x3 ∧ x3 < (1500 : Int)) ∧
      (if ι 92 0 x3 = (0 : Int) then
        (bm_rg (x3 + 1)) ∧
        bW sc 237 4 [br 13 0, bi x1, bi x2, bi (x3 + 1)] [] ι Q
      else
        (if x2 < (0 : Int) then
          (bm_rg (x3 + 1)) ∧
          bW sc 237 4 [br 13 0, bi x1, bi x3, bi (x3 + 1)] [] ι Q
        else
          (0 ≤ x3 ∧ x3 < (1500 : Int)) ∧
          (0 ≤ x2 ∧ x2 < (1500 : Int)) ∧
          (if ι 90 0 x2 ≤ ι 90 0 x3 then
            (bm_rg (x3 + 1)) ∧
            bW sc 237 4 [br 13 0, bi x1, bi x2, bi (x3 + 1)] [] ι Q
          else
            (bm_rg (x3 + 1)) ∧
            bW sc 237 4 [br 13 0, bi x1, bi x3, bi (x3 + 1)] [] ι Q))))) :
  bW sc 237 4 [br 13 0, bi x1, bi x2, bi x3] [] ι Q := bm_snd 237 [4] 24 h
-- M_findLengths
set_option maxRecDepth 100000 in
theorem e_M_findLengths_0 {sc : bm_Sc} {Q : bm_O → bm_S → Prop} {x1 : Int} {x2 : Int} {x3 : Int} {ι : bm_S}
  (h : bC sc 172 [br 13 0, bi x1, bi x2] ι (bk0 (fun ι1 => 
      bW sc 238 15 [br 13 0, bi x1, bi x2, bi x3, bi 0, bi 0, bi 0, bu] [] ι1 Q) (bq Q))) :
  bC sc 238 [br 13 0, bi x1, bi x2, bi x3] ι Q := bm_snd 238 [15, 66, 85] 11 h
set_option maxRecDepth 100000 in
theorem e_M_findLengths_15 {sc : bm_Sc} {Q : bm_O → bm_S → Prop} {x1 : Int} {x2 : Int} {x3 : Int} {x4 : Int} {x5 : Int} {x6 : Int} {v7 : bm_V} {ι : bm_S}
  (h : (if x2 ≤ x6 then
      (if (2 : Int) ≤ x4 then
        (bm_rg (x3 + 1)) ∧
        bW sc 238 66 [br 13 0, bi x1, bi x2, bi x3, bi x4, bi x5, bi (x3 + 1), v7] [] ι Q
      else
        (0 ≤ x1 ∧ x1 < (18000 : Int)) ∧
        Q (.inl (some (bi x4))) (up ι 73 0 x1 x5))
    else
      (0 ≤ x6 ∧ x6 < (1024 : Int)) ∧
      (if ι 93 0 x6 ≤ (0 : Int) then
        (bm_rg (x6 + 1)) ∧
        bW sc 238 15 [br 13 0, bi x1, bi x2, bi x3, bi x4, bi x5, bi (x6 + 1), v7] [] ι Q
      else
        (bm_rg (x4 + 1)) ∧
        (bm_rg (x6 + 1)) ∧
        bW sc 238 15 [br 13 0, bi x1, bi x2, bi x3, bi (x4 + 1), bi x6, bi (x6 + 1), v7] [] ι Q))) :
  bW sc 238 15 [br 13 0, bi x1, bi x2, bi x3, bi x4, bi x5, bi x6, v7] [] ι Q := bm_snd 238 [15, 66, 85] 14 h
set_option maxRecDepth 100000 in
theorem e_M_findLengths_66 {sc : bm_Sc} {Q : bm_O → bm_S → Prop} {x1 : Int} {x2 : Int} {x3 : Int} {x4 : Int} {v5 : bm_V} {x6 : Int} {v7 : bm_V} {ι : bm_S}
  (h : (if x6 ≤ x3 then
      Q (.inl (some (bi x4))) ι
    else
      bC sc 239 [br 13 0, bi x1, bi x2, bi x4] ι (bk1 (fun r1 ι1 => 
        bW sc 238 85 [br 13 0, bi x1, bi x2, bi x3, bi x4, v5, bi r1, bi 0] [] ι1 Q) (bq Q)))) :
  bW sc 238 66 [br 13 0, bi x1, bi x2, bi x3, bi x4, v5, bi x6, v7] [] ι Q := bm_snd 238 [15, 66, 85] 12 h
set_option maxRecDepth 100000 in
theorem e_M_findLengths_85 {sc : bm_Sc} {Q : bm_O → bm_S → Prop} {x1 : Int} {x2 : Int} {x3 : Int} {x4 : Int} {v5 : bm_V} {x6 : Int} {x7 : Int} {ι : bm_S}
  (h : (if x2 ≤ x7 then
      bW sc 238 66 [br 13 0, bi x1, bi x2, bi x3, bi x4, v5, bi x6, bi x7] [] ι Q
    else
      (if x6 ≤ x3 then
        bW sc 238 66 [br 13 0, bi x1, bi x2, bi x3, bi x4, v5, bi x6, bi x7] [] ι Q
      else
        (0 ≤ x7 ∧ x7 < (1024 : Int)) ∧
        (if ι 93 0 x7 ≤ (0 : Int) then
          (0 ≤ x7 ∧ x7 < (1024 : Int)) ∧
          (bm_rg (x7 + 1)) ∧
          bW sc 238 85 [br 13 0, bi x1, bi x2, bi x3, bi x4, v5, bi x6, bi (x7 + 1)] [] (up ι 93 0 x7 0) Q
        else
          (0 ≤ x7 ∧ x7 < (1024 : Int)) ∧
          (0 ≤ ι 93 0 x7 ∧ 0 < (2 : Int)) ∧
          (bm_rg (ι 93 0 x7 / 2 + 1)) ∧
          (0 ≤ x7 ∧ x7 < (1024 : Int)) ∧
          (bm_rg (x7 + 1)) ∧
          bW sc 238 85 [br 13 0, bi x1, bi x2, bi x3, bi x4, v5, bi x6, bi (x7 + 1)] [] (up ι 93 0 x7 (ι 93 0 x7 / 2 + 1)) Q)))) :
  bW sc 238 85 [br 13 0, bi x1, bi x2, bi x3, bi x4, v5, bi x6, bi x7] [] ι Q := bm_snd 238 [15, 66, 85] 27 h
-- M_joinAll
set_option maxRecDepth 100000 in
theorem e_M_joinAll_0 {sc : bm_Sc} {Q : bm_O → bm_S → Prop} {x1 : Int} {x2 : Int} {x3 : Int} {ι : bm_S}
  (h : bW sc 239 6 [br 13 0, bi x1, bi x2, bi x3, bi 0, bi 0, bu, bu, bu] [] ι Q) :
  bC sc 239 [br 13 0, bi x1, bi x2, bi x3] ι Q := bm_snd 239 [6, 68, 177, 190] 5 h
set_option maxRecDepth 100000 in
theorem e_M_joinAll_6 {sc : bm_Sc} {Q : bm_O → bm_S → Prop} {x1 : Int} {x2 : Int} {x3 : Int} {v4 : bm_V} {x5 : Int} {v6 : bm_V} {v7 : bm_V} {v8 : bm_V} {ι : bm_S}
  (h : (if x2 ≤ x5 then
      bW sc 239 68 [br 13 0, bi x1, bi x2, bi x3, bi x2, bi 1, v6, v7, v8] [] ι Q
    else
      (0 ≤ x5 ∧ x5 < (1024 : Int)) ∧
      (if ι 93 0 x5 ≤ (0 : Int) then
        (0 ≤ x5 ∧ x5 < (1500 : Int) ∧ ((0 : Int) = 0 ∨ (0 : Int) = 1)) ∧
        (0 ≤ x5 ∧ x5 < (1024 : Int)) ∧
        (0 ≤ x5 ∧ x5 < (1500 : Int)) ∧
        (0 ≤ x5 ∧ x5 < (1500 : Int)) ∧
        (bm_rg (x5 + 1)) ∧
        bW sc 239 6 [br 13 0, bi x1, bi x2, bi x3, v4, bi (x5 + 1), v6, v7, v8] [] (up (up (up ι 92 0 x5 0) 90 0 x5 (ι 93 0 x5)) 91 0 x5 (-1)) Q
      else
        (0 ≤ x5 ∧ x5 < (1500 : Int) ∧ ((1 : Int) = 0 ∨ (1 : Int) = 1)) ∧
        (0 ≤ x5 ∧ x5 < (1024 : Int)) ∧
        (0 ≤ x5 ∧ x5 < (1500 : Int)) ∧
        (0 ≤ x5 ∧ x5 < (1500 : Int)) ∧
        (bm_rg (x5 + 1)) ∧
        bW sc 239 6 [br 13 0, bi x1, bi x2, bi x3, v4, bi (x5 + 1), v6, v7, v8] [] (up (up (up ι 92 0 x5 1) 90 0 x5 (ι 93 0 x5)) 91 0 x5 (-1)) Q))) :
  bW sc 239 6 [br 13 0, bi x1, bi x2, bi x3, v4, bi x5, v6, v7, v8] [] ι Q := bm_snd 239 [6, 68, 177, 190] 30 h
set_option maxRecDepth 100000 in
theorem e_M_joinAll_68 {sc : bm_Sc} {Q : bm_O → bm_S → Prop} {x1 : Int} {x2 : Int} {x3 : Int} {x4 : Int} {x5 : Int} {v6 : bm_V} {v7 : bm_V} {v8 : bm_V} {ι : bm_S}
  (h : (if x3 ≤ x5 then
      bW sc 239 177 [br 13 0, bi x1, bi x2, bi x3, bi x4, bi 0, bi 0, v7, v8] [] ι Q
    else
      bC sc 237 [br 13 0, bi x4] ι (bk1 (fun r1 ι1 => 
        (0 ≤ r1 ∧ r1 < (1500 : Int) ∧ ((0 : Int) = 0 ∨ (0 : Int) = 1)) ∧
        bC sc 237 [br 13 0, bi x4] (up ι1 92 0 r1 0) (bk1 (fun r2 ι2 => 
          (0 ≤ r2 ∧ r2 < (1500 : Int) ∧ ((0 : Int) = 0 ∨ (0 : Int) = 1)) ∧
          (0 ≤ r1 ∧ r1 < (1500 : Int)) ∧
          (0 ≤ r2 ∧ r2 < (1500 : Int)) ∧
          (bm_rg (ι2 90 0 r1 + ι2 90 0 r2)) ∧
          (0 ≤ x4 ∧ x4 < (1500 : Int)) ∧
          (0 ≤ x4 ∧ x4 < (1500 : Int) ∧ ((1 : Int) = 0 ∨ (1 : Int) = 1)) ∧
          (0 ≤ x4 ∧ x4 < (1500 : Int)) ∧
          (0 ≤ r1 ∧ r1 < (1500 : Int)) ∧
          (0 ≤ r2 ∧ r2 < (1500 : Int)) ∧
          (bm_rg (x4 + 1)) ∧
          (bm_rg (x5 + 1)) ∧
          bW sc 239 68 [br 13 0, bi x1, bi x2, bi x3, bi (x4 + 1), bi (x5 + 1), bi r1, bi r2, v8] [] (up (up (up (up (up (up ι2 92 0 r2 0) 90 0 x4 (ι2 90 0 r1 + ι2 90 0 r2)) 92 0 x4 1) 91 0 x4 (-1)) 91 0 r1 x4) 91 0 r2 x4) Q) (bq Q))) (bq Q)))) :
  bW sc 239 68 [br 13 0, bi x1, bi x2, bi x3, bi x4, bi x5, v6, v7, v8] [] ι Q := bm_snd 239 [6, 68, 177, 190] 58 h
set_option maxRecDepth 100000 in
theorem e_M_joinAll_177 {sc : bm_Sc} {Q : bm_O → bm_S → Prop} {x1 : Int} {x2 : Int} {v3 : bm_V} {v4 : bm_V} {x5 : Int} {x6 : Int} {v7 : bm_V} {v8 : bm_V} {ι : bm_S}
  (h : (if x2 ≤ x6 then
      Q (.inl (some (bi x5))) ι
    else
      bW sc 239 190 [br 13 0, bi x1, bi x2, v3, v4, bi x5, bi x6, bi 0, bi x6] [] ι Q)) :
  bW sc 239 177 [br 13 0, bi x1, bi x2, v3, v4, bi x5, bi x6, v7, v8] [] ι Q := bm_snd 239 [6, 68, 177, 190] 8 h
set_option maxRecDepth 100000 in
theorem e_M_joinAll_190 {sc : bm_Sc} {Q : bm_O → bm_S → Prop} {x1 : Int} {x2 : Int} {v3 : bm_V} {v4 : bm_V} {x5 : Int} {x6 : Int} {x7 : Int} {x8 : Int} {ι : bm_S}
  (h : (0 ≤ x6 ∧ x6 < (1024 : Int)) ∧
    (if ι 93 0 x6 ≤ (0 : Int) then
      (bm_rg (x1 + x6)) ∧
      (0 ≤ x1 + x6 ∧ x1 + x6 < (18000 : Int)) ∧
      (if x7 ≤ x5 then
        (bm_rg (x6 + 1)) ∧
        bW sc 239 177 [br 13 0, bi x1, bi x2, v3, v4, bi x5, bi (x6 + 1), bi x7, bi x8] [] (up ι 71 0 (x1 + x6) x7) Q
      else
        (bm_rg (x6 + 1)) ∧
        bW sc 239 177 [br 13 0, bi x1, bi x2, v3, v4, bi x7, bi (x6 + 1), bi x7, bi x8] [] (up ι 71 0 (x1 + x6) x7) Q)
    else
      (0 ≤ x8 ∧ x8 < (1500 : Int)) ∧
      (if ι 91 0 x8 < (0 : Int) then
        (bm_rg (x1 + x6)) ∧
        (0 ≤ x1 + x6 ∧ x1 + x6 < (18000 : Int)) ∧
        (if x7 ≤ x5 then
          (bm_rg (x6 + 1)) ∧
          bW sc 239 177 [br 13 0, bi x1, bi x2, v3, v4, bi x5, bi (x6 + 1), bi x7, bi x8] [] (up ι 71 0 (x1 + x6) x7) Q
        else
          (bm_rg (x6 + 1)) ∧
          bW sc 239 177 [br 13 0, bi x1, bi x2, v3, v4, bi x7, bi (x6 + 1), bi x7, bi x8] [] (up ι 71 0 (x1 + x6) x7) Q)
      else
        (bm_rg (x7 + 1)) ∧
        (0 ≤ x8 ∧ x8 < (1500 : Int)) ∧
        bW sc 239 190 [br 13 0, bi x1, bi x2, v3, v4, bi x5, bi x6, bi (x7 + 1), bi (ι 91 0 x8)] [] ι Q))) :
  bW sc 239 190 [br 13 0, bi x1, bi x2, v3, v4, bi x5, bi x6, bi x7, bi x8] [] ι Q := bm_snd 239 [6, 68, 177, 190] 26 h
-- M_writeFew
set_option maxRecDepth 100000 in
theorem e_M_writeFew_0 {sc : bm_Sc} {Q : bm_O → bm_S → Prop} {x1 : Int} {x2 : Int} {x3 : Int} {ι : bm_S}
  (h : bC sc 234 [br 13 0, bi 1, bi 2] ι (bk0 (fun ι1 => 
      (if x3 = (0 : Int) then
        (bm_rg (1 - 1)) ∧
        bC sc 234 [br 13 0, bi (1 - 1), bi 2] ι1 (bk0 (fun ι5 => 
          (if (2 : Int) ≤ x3 then
            bW sc 240 53 [br 13 0, bi x1, bi x2, bi x3, bi 1, bi 0, bi 1, bu] [] ι5 Q
          else
            (0 ≤ x1 ∧ x1 < (18000 : Int)) ∧
            (bm_rg (x2 - 1)) ∧
            bC sc 177 [bi (x2 - 1)] ι5 (bk1 (fun r6 ι6 => 
              bC sc 234 [br 13 0, bi (ι5 73 0 x1), bi r6] ι6 (bk0 (fun ι7 => 
                bW sc 240 53 [br 13 0, bi x1, bi x2, bi x3, bi 1, bi 0, bi 1, bu] [] ι7 Q) (bq Q))) (bq Q)))) (bq Q))
      else
        (bm_rg (x3 - 1)) ∧
        bC sc 234 [br 13 0, bi (x3 - 1), bi 2] ι1 (bk0 (fun ι2 => 
          (if (2 : Int) ≤ x3 then
            bW sc 240 53 [br 13 0, bi x1, bi x2, bi x3, bi x3, bi 0, bi 1, bu] [] ι2 Q
          else
            (0 ≤ x1 ∧ x1 < (18000 : Int)) ∧
            (bm_rg (x2 - 1)) ∧
            bC sc 177 [bi (x2 - 1)] ι2 (bk1 (fun r3 ι3 => 
              bC sc 234 [br 13 0, bi (ι2 73 0 x1), bi r3] ι3 (bk0 (fun ι4 => 
                bW sc 240 53 [br 13 0, bi x1, bi x2, bi x3, bi x3, bi 0, bi 1, bu] [] ι4 Q) (bq Q))) (bq Q)))) (bq Q)))) (bq Q))) :
  bC sc 240 [br 13 0, bi x1, bi x2, bi x3] ι Q := bm_snd 240 [53, 67] 33 h
set_option maxRecDepth 100000 in
theorem e_M_writeFew_53 {sc : bm_Sc} {Q : bm_O → bm_S → Prop} {x1 : Int} {x2 : Int} {x3 : Int} {x4 : Int} {x5 : Int} {x6 : Int} {v7 : bm_V} {ι : bm_S}
  (h : (if (3 : Int) < x6 then
      (if x4 = (4 : Int) then
        (if x5 = (3 : Int) then
          bC sc 234 [br 13 0, bi 1, bi 1] ι (bk0 (fun ι2 => 
            Q (.inl none) ι2) (bq Q))
        else
          bC sc 234 [br 13 0, bi 0, bi 1] ι (bk0 (fun ι1 => 
            Q (.inl none) ι1) (bq Q)))
      else
        Q (.inl none) ι)
    else
      (if x3 ≤ (1 : Int) then
        (if x4 = (4 : Int) then
          (if x5 = (3 : Int) then
            bC sc 234 [br 13 0, bi 1, bi 1] ι (bk0 (fun ι4 => 
              Q (.inl none) ι4) (bq Q))
          else
            bC sc 234 [br 13 0, bi 0, bi 1] ι (bk0 (fun ι3 => 
              Q (.inl none) ι3) (bq Q)))
        else
          Q (.inl none) ι)
      else
        bW sc 240 67 [br 13 0, bi x1, bi x2, bi x3, bi x4, bi x5, bi x6, bi 0] [] ι Q))) :
  bW sc 240 53 [br 13 0, bi x1, bi x2, bi x3, bi x4, bi x5, bi x6, v7] [] ι Q := bm_snd 240 [53, 67] 18 h
set_option maxRecDepth 100000 in
theorem e_M_writeFew_67 {sc : bm_Sc} {Q : bm_O → bm_S → Prop} {x1 : Int} {x2 : Int} {x3 : Int} {x4 : Int} {x5 : Int} {x6 : Int} {x7 : Int} {ι : bm_S}
  (h : (if x2 ≤ x7 then
      (bm_rg (x6 + 1)) ∧
      bW sc 240 53 [br 13 0, bi x1, bi x2, bi x3, bi x4, bi x5, bi (x6 + 1), bi x7] [] ι Q
    else
      (bm_rg (x1 + x7)) ∧
      (0 ≤ x1 + x7 ∧ x1 + x7 < (18000 : Int)) ∧
      (if ι 71 0 (x1 + x7) = x6 then
        (bm_rg (x2 - 1)) ∧
        bC sc 177 [bi (x2 - 1)] ι (bk1 (fun r1 ι1 => 
          bC sc 234 [br 13 0, bi x7, bi r1] ι1 (bk0 (fun ι2 => 
            (bm_rg (x7 + 1)) ∧
            bW sc 240 67 [br 13 0, bi x1, bi x2, bi x3, bi x4, bi x6, bi x6, bi (x7 + 1)] [] ι2 Q) (bq Q))) (bq Q))
      else
        (bm_rg (x7 + 1)) ∧
        bW sc 240 67 [br 13 0, bi x1, bi x2, bi x3, bi x4, bi x5, bi x6, bi (x7 + 1)] [] ι Q))) :
  bW sc 240 67 [br 13 0, bi x1, bi x2, bi x3, bi x4, bi x5, bi x6, bi x7] [] ι Q := bm_snd 240 [53, 67] 23 h
-- M_putMark
set_option maxRecDepth 100000 in
theorem e_M_putMark_0 {sc : bm_Sc} {Q : bm_O → bm_S → Prop} {x1 : Int} {x2 : Int} {ι : bm_S}
  (h : (0 ≤ ι 13 0 50 ∧ ι 13 0 50 < (1024 : Int)) ∧
    (0 ≤ ι 13 0 50 ∧ ι 13 0 50 < (1024 : Int)) ∧
    (bm_rg (ι 13 0 50 + 1)) ∧
    Q (.inl none) (up (up (up ι 94 0 (ι 13 0 50) x1) 95 0 (ι 13 0 50) x2) 13 0 50 (ι 13 0 50 + 1))) :
  bC sc 241 [br 13 0, bi x1, bi x2] ι Q := bm_snd 241 [] 19 h
-- M_findMarks
set_option maxRecDepth 100000 in
theorem e_M_findMarks_0 {sc : bm_Sc} {Q : bm_O → bm_S → Prop} {x1 : Int} {x2 : Int} {ι : bm_S}
  (h : bW sc 242 5 [br 13 0, bi x1, bi x2, bi 0, bi 0, bu, bu] [] ι Q) :
  bC sc 242 [br 13 0, bi x1, bi x2] ι Q := bm_snd 242 [5, 46, 55] 5 h
set_option maxRecDepth 100000 in
theorem e_M_findMarks_5 {sc : bm_Sc} {Q : bm_O → bm_S → Prop} {x1 : Int} {x2 : Int} {x3 : Int} {x4 : Int} {v5 : bm_V} {v6 : bm_V} {ι : bm_S}
  (h : (if x2 ≤ x4 then
      bW sc 242 46 [br 13 0, bi x1, bi x2, bi x3, bi 0, v5, v6] [] (up ι 13 0 50 0) Q
    else
      (bm_rg (x1 + x4)) ∧
      (0 ≤ x1 + x4 ∧ x1 + x4 < (18000 : Int)) ∧
      (if ι 71 0 (x1 + x4) ≤ (0 : Int) then
        (bm_rg (x4 + 1)) ∧
        bW sc 242 5 [br 13 0, bi x1, bi x2, bi x3, bi (x4 + 1), v5, v6] [] ι Q
      else
        (bm_rg (x4 + 1)) ∧
        (bm_rg (x4 + 1)) ∧
        bW sc 242 5 [br 13 0, bi x1, bi x2, bi (x4 + 1), bi (x4 + 1), v5, v6] [] ι Q))) :
  bW sc 242 5 [br 13 0, bi x1, bi x2, bi x3, bi x4, v5, v6] [] ι Q := bm_snd 242 [5, 46, 55] 18 h
set_option maxRecDepth 100000 in
theorem e_M_findMarks_46 {sc : bm_Sc} {Q : bm_O → bm_S → Prop} {x1 : Int} {v2 : bm_V} {x3 : Int} {x4 : Int} {v5 : bm_V} {v6 : bm_V} {ι : bm_S}
  (h : (if x3 ≤ x4 then
      Q (.inl none) ι
    else
      bW sc 242 55 [br 13 0, bi x1, v2, bi x3, bi x4, bi 0, v6] [] ι Q)) :
  bW sc 242 46 [br 13 0, bi x1, v2, bi x3, bi x4, v5, v6] [] ι Q := bm_snd 242 [5, 46, 55] 6 h
set_option maxRecDepth 100000 in
theorem e_M_findMarks_55 {sc : bm_Sc} {Q : bm_O → bm_S → Prop} {x1 : Int} {v2 : bm_V} {x3 : Int} {x4 : Int} {x5 : Int} {v6 : bm_V} {ι : bm_S}
  (h : (bm_rg (x4 + x5)) ∧
    (if x3 ≤ x4 + x5 then
      (if x5 < (3 : Int) then
        (bm_rg (x1 + x4)) ∧
        (0 ≤ x1 + x4 ∧ x1 + x4 < (18000 : Int)) ∧
        bC sc 241 [br 13 0, bi (ι 71 0 (x1 + x4)), bi 0] ι (bk0 (fun ι1 => 
          (bm_rg (x4 + 1)) ∧
          bW sc 242 46 [br 13 0, bi x1, v2, bi x3, bi (x4 + 1), bi x5, v6] [] ι1 Q) (bq Q))
      else
        (if ι 13 0 50 = (0 : Int) then
          (if (10 : Int) ≤ x5 then
            bC sc 241 [br 13 0, bi 17, bi 10] ι (bk0 (fun ι2 => 
              (bm_rg (x4 + 10)) ∧
              bW sc 242 46 [br 13 0, bi x1, v2, bi x3, bi (x4 + 10), bi x5, bi 10] [] ι2 Q) (bq Q))
          else
            bC sc 241 [br 13 0, bi 17, bi x5] ι (bk0 (fun ι3 => 
              (bm_rg (x4 + x5)) ∧
              bW sc 242 46 [br 13 0, bi x1, v2, bi x3, bi (x4 + x5), bi x5, bi x5] [] ι3 Q) (bq Q)))
        else
          (bm_rg (ι 13 0 50 - 1)) ∧
          (0 ≤ ι 13 0 50 - 1 ∧ ι 13 0 50 - 1 < (1024 : Int)) ∧
          (if ι 94 0 (ι 13 0 50 - 1) = (17 : Int) then
            (bm_rg (x1 + x4)) ∧
            (0 ≤ x1 + x4 ∧ x1 + x4 < (18000 : Int)) ∧
            bC sc 241 [br 13 0, bi (ι 71 0 (x1 + x4)), bi 0] ι (bk0 (fun ι4 => 
              (bm_rg (x4 + 1)) ∧
              bW sc 242 46 [br 13 0, bi x1, v2, bi x3, bi (x4 + 1), bi x5, v6] [] ι4 Q) (bq Q))
          else
            (if (10 : Int) ≤ x5 then
              bC sc 241 [br 13 0, bi 17, bi 10] ι (bk0 (fun ι5 => 
                (bm_rg (x4 + 10)) ∧
                bW sc 242 46 [br 13 0, bi x1, v2, bi x3, bi (x4 + 10), bi x5, bi 10] [] ι5 Q) (bq Q))
            else
              bC sc 241 [br 13 0, bi 17, bi x5] ι (bk0 (fun ι6 => 
                (bm_rg (x4 + x5)) ∧
                bW sc 242 46 [br 13 0, bi x1, v2, bi x3, bi (x4 + x5), bi x5, bi x5] [] ι6 Q) (bq Q))))))
    else
      (bm_rg (x1 + x4)) ∧
      (bm_rg (x1 + x4 + x5)) ∧
      (0 ≤ x1 + x4 + x5 ∧ x1 + x4 + x5 < (18000 : Int)) ∧
      (if ι 71 0 (x1 + x4 + x5) = (0 : Int) then
        (bm_rg (x5 + 1)) ∧
        bW sc 242 55 [br 13 0, bi x1, v2, bi x3, bi x4, bi (x5 + 1), v6] [] ι Q
      else
        (if x5 < (3 : Int) then
          (bm_rg (x1 + x4)) ∧
          (0 ≤ x1 + x4 ∧ x1 + x4 < (18000 : Int)) ∧
          bC sc 241 [br 13 0, bi (ι 71 0 (x1 + x4)), bi 0] ι (bk0 (fun ι7 => 
            (bm_rg (x4 + 1)) ∧
            bW sc 242 46 [br 13 0, bi x1, v2, bi x3, bi (x4 + 1), bi x5, v6] [] ι7 Q) (bq Q))
        else
          (if ι 13 0 50 = (0 : Int) then
            (if (10 : Int) ≤ x5 then
              bC sc 241 [br 13 0, bi 17, bi 10] ι (bk0 (fun ι8 => 
                (bm_rg (x4 + 10)) ∧
                bW sc 242 46 [br 13 0, bi x1, v2, bi x3, bi (x4 + 10), bi x5, bi 10] [] ι8 Q) (bq Q))
            else
              bC sc 241 [br 13 0, bi 17, bi x5] ι (bk0 (fun ι9 => 
                (bm_rg (x4 + x5)) ∧
                bW sc 242 46 [br 13 0, bi x1, v2, bi x3, bi (x4 + x5), bi x5, bi x5] [] ι9 Q) (bq Q)))
          else
            (bm_rg (ι 13 0 50 - 1)) ∧
            (0 ≤ ι 13 0 50 - 1 ∧ ι 13 0 50 - 1 < (1024 : Int)) ∧
            (if ι 94 0 (ι 13 0 50 - 1) = (17 : Int) then
              (bm_rg (x1 + x4)) ∧
              (0 ≤ x1 + x4 ∧ x1 + x4 < (18000 : Int)) ∧
              bC sc 241 [br 13 0, bi (ι 71 0 (x1 + x4)), bi 0] ι (bk0 (fun ι10 => 
                (bm_rg (x4 + 1)) ∧
                bW sc 242 46 [br 13 0, bi x1, v2, bi x3, bi (x4 + 1), bi x5, v6] [] ι10 Q) (bq Q))
            else
              (if (10 : Int) ≤ x5 then
                bC sc 241 [br 13 0, bi 17, bi 10] ι (bk0 (fun ι11 => 
                  (bm_rg (x4 + 10)) ∧
                  bW sc 242 46 [br 13 0, bi x1, v2, bi x3, bi (x4 + 10), bi x5, bi 10] [] ι11 Q) (bq Q))
              else
                bC sc 241 [br 13 0, bi 17, bi x5] ι (bk0 (fun ι12 => 
                  (bm_rg (x4 + x5)) ∧
                  bW sc 242 46 [br 13 0, bi x1, v2, bi x3, bi (x4 + x5), bi x5, bi x5] [] ι12 Q) (bq Q))))))))) :
  bW sc 242 55 [br 13 0, bi x1, v2, bi x3, bi x4, bi x5, v6] [] ι Q := bm_snd 242 [5, 46, 55] 46 h
-- M_writeMarkLength
set_option maxRecDepth 100000 in
theorem e_M_writeMarkLength_0 {sc : bm_Sc} {Q : bm_O → bm_S → Prop} {x1 : Int} {ι : bm_S}
  (h : (if x1 = 0 then
      bC sc 234 [br 13 0, bi 0, bi 2] ι (bk0 (fun ι6 => 
        Q (.inl none) ι6) (bq Q))
    else
      (if x1 = 1 then
        bC sc 234 [br 13 0, bi 7, bi 4] ι (bk0 (fun ι5 => 
          Q (.inl none) ι5) (bq Q))
      else
        (if x1 = 2 then
          bC sc 234 [br 13 0, bi 3, bi 3] ι (bk0 (fun ι4 => 
            Q (.inl none) ι4) (bq Q))
        else
          (if x1 = 3 then
            bC sc 234 [br 13 0, bi 2, bi 2] ι (bk0 (fun ι3 => 
              Q (.inl none) ι3) (bq Q))
          else
            (if x1 = 4 then
              bC sc 234 [br 13 0, bi 1, bi 2] ι (bk0 (fun ι2 => 
                Q (.inl none) ι2) (bq Q))
            else
              bC sc 234 [br 13 0, bi 15, bi 4] ι (bk0 (fun ι1 => 
                Q (.inl none) ι1) (bq Q)))))))) :
  bC sc 243 [br 13 0, bi x1] ι Q := bm_snd 243 [] 8 h
-- M_writeCode
set_option maxRecDepth 100000 in
theorem e_M_writeCode_0 {sc : bm_Sc} {Q : bm_O → bm_S → Prop} {x1 : Int} {x2 : Int} {ι : bm_S}
  (h : bC sc 238 [br 13 0, bi x1, bi x2, bi 15] ι (bk1 (fun r1 ι1 => 
      bC sc 171 [br 13 0, bi x1, bi x2] ι1 (bk0 (fun ι2 => 
        (if (4 : Int) < r1 then
          bC sc 234 [br 13 0, bi 0, bi 2] ι2 (bk0 (fun ι3 => 
            bC sc 242 [br 13 0, bi x1, bi x2] ι3 (bk0 (fun ι4 => 
              bW sc 244 43 [br 13 0, bi x1, bi x2, bi r1, bi 0, bu, bu, bu] [] ι4 Q) (bq Q))) (bq Q))
        else
          bC sc 240 [br 13 0, bi x1, bi x2, bi r1] ι2 (bk0 (fun ι5 => 
            Q (.inl none) ι5) (bq Q)))) (bq Q))) (bq Q))) :
  bC sc 244 [br 13 0, bi x1, bi x2] ι Q := bm_snd 244 [43, 67, 149, 213] 24 h
set_option maxRecDepth 100000 in
theorem e_M_writeCode_43 {sc : bm_Sc} {Q : bm_O → bm_S → Prop} {v1 : bm_V} {v2 : bm_V} {v3 : bm_V} {x4 : Int} {v5 : bm_V} {v6 : bm_V} {v7 : bm_V} {ι : bm_S}
  (h : (if (18 : Int) ≤ x4 then
      bW sc 244 67 [br 13 0, v1, v2, v3, bi 0, v5, v6, v7] [] ι Q
    else
      (0 ≤ x4 ∧ x4 < (1024 : Int)) ∧
      (bm_rg (x4 + 1)) ∧
      bW sc 244 43 [br 13 0, v1, v2, v3, bi (x4 + 1), v5, v6, v7] [] (up ι 93 0 x4 0) Q)) :
  bW sc 244 43 [br 13 0, v1, v2, v3, bi x4, v5, v6, v7] [] ι Q := bm_snd 244 [43, 67, 149, 213] 11 h
set_option maxRecDepth 100000 in
theorem e_M_writeCode_67 {sc : bm_Sc} {Q : bm_O → bm_S → Prop} {v1 : bm_V} {v2 : bm_V} {v3 : bm_V} {x4 : Int} {v5 : bm_V} {v6 : bm_V} {v7 : bm_V} {ι : bm_S}
  (h : (if ι 13 0 50 ≤ x4 then
      bC sc 238 [br 13 0, bi 17910, bi 18, bi 5] ι (bk1 (fun r1 ι1 => 
        (if r1 = (1 : Int) then
          (0 ≤ (17910 : Int) ∧ (17910 : Int) < (18000 : Int)) ∧
          (bm_rg (17910 + ι1 73 0 17910)) ∧
          (0 ≤ 17910 + ι1 73 0 17910 ∧ 17910 + ι1 73 0 17910 < (18000 : Int)) ∧
          bC sc 171 [br 13 0, bi 17910, bi 18] (up ι1 71 0 (17910 + ι1 73 0 17910) 1) (bk0 (fun ι3 => 
            bW sc 244 149 [br 13 0, v1, v2, v3, bi r1, bi 0, bi 0, v7] [] ι3 Q) (bq Q))
        else
          bC sc 171 [br 13 0, bi 17910, bi 18] ι1 (bk0 (fun ι2 => 
            bW sc 244 149 [br 13 0, v1, v2, v3, bi r1, bi 0, bi 0, v7] [] ι2 Q) (bq Q)))) (bq Q))
    else
      (0 ≤ x4 ∧ x4 < (1024 : Int)) ∧
      (0 ≤ ι 94 0 x4 ∧ ι 94 0 x4 < (1024 : Int)) ∧
      (bm_rg (ι 93 0 (ι 94 0 x4) + 1)) ∧
      (0 ≤ ι 94 0 x4 ∧ ι 94 0 x4 < (1024 : Int)) ∧
      (bm_rg (x4 + 1)) ∧
      bW sc 244 67 [br 13 0, v1, v2, v3, bi (x4 + 1), v5, v6, v7] [] (up ι 93 0 (ι 94 0 x4) (ι 93 0 (ι 94 0 x4) + 1)) Q)) :
  bW sc 244 67 [br 13 0, v1, v2, v3, bi x4, v5, v6, v7] [] ι Q := bm_snd 244 [43, 67, 149, 213] 32 h
set_option maxRecDepth 100000 in
theorem e_M_writeCode_149 {sc : bm_Sc} {Q : bm_O → bm_S → Prop} {v1 : bm_V} {v2 : bm_V} {v3 : bm_V} {v4 : bm_V} {x5 : Int} {x6 : Int} {v7 : bm_V} {ι : bm_S}
  (h : (if (18 : Int) ≤ x6 then
      bW sc 244 213 [br 13 0, v1, v2, v3, v4, bi x5, bi 0, v7] [] ι Q
    else
      (if (32 : Int) ≤ x5 then
        bW sc 244 213 [br 13 0, v1, v2, v3, v4, bi x5, bi 0, v7] [] ι Q
      else
        bC sc 181 [bi x6] ι (bk1 (fun r1 ι1 => 
          (bm_rg (17910 + r1)) ∧
          (0 ≤ 17910 + r1 ∧ 17910 + r1 < (18000 : Int)) ∧
          bC sc 243 [br 13 0, bi (ι1 71 0 (17910 + r1))] ι1 (bk0 (fun ι2 => 
            (if ι1 71 0 (17910 + r1) ≤ (0 : Int) then
              (bm_rg (x5 + 0)) ∧
              (bm_rg (x6 + 1)) ∧
              bW sc 244 149 [br 13 0, v1, v2, v3, v4, bi (x5 + 0), bi (x6 + 1), bi (ι1 71 0 (17910 + r1))] [] ι2 Q
            else
              (0 ≤ ι1 71 0 (17910 + r1) ∧ ι1 71 0 (17910 + r1) < 32) ∧
              (bm_rg (x5 + 32 / bm_p2 (ι1 71 0 (17910 + r1)))) ∧
              (bm_rg (x6 + 1)) ∧
              bW sc 244 149 [br 13 0, v1, v2, v3, v4, bi (x5 + 32 / bm_p2 (ι1 71 0 (17910 + r1))), bi (x6 + 1), bi (ι1 71 0 (17910 + r1))] [] ι2 Q)) (bq Q))) (bq Q))))) :
  bW sc 244 149 [br 13 0, v1, v2, v3, v4, bi x5, bi x6, v7] [] ι Q := bm_snd 244 [43, 67, 149, 213] 29 h
