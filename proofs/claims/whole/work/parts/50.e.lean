set_option maxRecDepth 100000 in
theorem e_M_addCommand_217 {sc : bm_Sc} {Q : bm_O → bm_S → Prop} {v1 : bm_V} {v2 : bm_V} {x3 : Int} {v4 : bm_V} {v5 : bm_V} {v6 : bm_V} {v7 : bm_V} {v8 : bm_V} {v9 : bm_V} {x10 : Int} {ι : bm_S}
  (h : (if (3 : Int) ≤ x10 then
      (0 ≤ (3 : Int) ∧ (3 : Int) < (4 : Int)) ∧
      bW sc 252 252 [br 13 0, v1, v2, bi x3, v4, v5, v6, v7, v8, v9, bi x10] [] (up ι 107 0 3 x3) Q
    else
      (bm_rg (x10 + 1)) ∧
      (0 ≤ x10 + 1 ∧ x10 + 1 < (4 : Int)) ∧
      (0 ≤ x10 ∧ x10 < (4 : Int)) ∧
      (bm_rg (x10 + 1)) ∧
      bW sc 252 217 [br 13 0, v1, v2, bi x3, v4, v5, v6, v7, v8, v9, bi (x10 + 1)] [] (up ι 107 0 x10 (ι 107 0 (x10 + 1))) Q)) :
  bW sc 252 217 [br 13 0, v1, v2, bi x3, v4, v5, v6, v7, v8, v9, bi x10] [] ι Q := bm_snd 252 [57, 217, 252] 16 h
set_option maxRecDepth 100000 in
theorem e_M_addCommand_252 {sc : bm_Sc} {Q : bm_O → bm_S → Prop} {v0 : bm_V} {v1 : bm_V} {v2 : bm_V} {v3 : bm_V} {v4 : bm_V} {v5 : bm_V} {v6 : bm_V} {v7 : bm_V} {v8 : bm_V} {v9 : bm_V} {v10 : bm_V} {ι : bm_S}
  (h : Q (.inl none) ι) :
  bW sc 252 252 [v0, v1, v2, v3, v4, v5, v6, v7, v8, v9, v10] [] ι Q := bm_snd 252 [57, 217, 252] 1 h
-- M_findCommands
set_option maxRecDepth 100000 in
theorem e_M_findCommands_0 {sc : bm_Sc} {Q : bm_O → bm_S → Prop}  {ι : bm_S}
  (h : (0 ≤ (0 : Int) ∧ (0 : Int) < (4 : Int)) ∧
    (0 ≤ (1 : Int) ∧ (1 : Int) < (4 : Int)) ∧
    (0 ≤ (2 : Int) ∧ (2 : Int) < (4 : Int)) ∧
    (0 ≤ (3 : Int) ∧ (3 : Int) < (4 : Int)) ∧
    bW sc 253 40 [br 13 0, bi 0, bi 0, bu, bu] [] (up (up (up (up (up ι 13 0 63 0) 107 0 0 16) 107 0 1 15) 107 0 2 11) 107 0 3 4) Q) :
  bC sc 253 [br 13 0] ι Q := bm_snd 253 [40] 28 h
set_option maxRecDepth 100000 in
theorem e_M_findCommands_40 {sc : bm_Sc} {Q : bm_O → bm_S → Prop} {x1 : Int} {x2 : Int} {v3 : bm_V} {v4 : bm_V} {ι : bm_S}
  (h : (if ι 13 0 59 ≤ x2 then
      (if ι 13 0 59 ≤ x1 then
        Q (.inl none) ι
      else
        (bm_rg (ι 13 0 59 - x1)) ∧
        bC sc 252 [br 13 0, bi (ι 13 0 59 - x1), bi 2, bi 0, bi 1, bi 0] ι (bk0 (fun ι1 => 
          Q (.inl none) ι1) (bq Q)))
    else
      bC sc 247 [br 13 0, bi x2] ι (bk1 (fun r2 ι2 => 
        (0 ≤ x2 ∧ x2 < (2001 : Int)) ∧
        (if ι2 102 0 x2 = (1 : Int) then
          (bm_rg (x2 - x1)) ∧
          (0 ≤ x2 ∧ x2 < (2001 : Int)) ∧
          (0 ≤ x2 ∧ x2 < (2001 : Int)) ∧
          bC sc 252 [br 13 0, bi (x2 - x1), bi (ι2 96 0 x2), bi (ι2 97 0 x2), bi 0, bi 1] ι2 (bk0 (fun ι5 => 
            (bm_rg (x2 + r2)) ∧
            (if r2 = (1 : Int) then
              (bm_rg (x2 + r2 - 1)) ∧
              (0 ≤ x2 + r2 - 1 ∧ x2 + r2 - 1 < (2001 : Int)) ∧
              (if ι5 102 0 (x2 + r2 - 1) = (0 : Int) then
                bW sc 253 40 [br 13 0, bi x1, bi (x2 + r2), bi r2, v4] [] ι5 Q
              else
                bW sc 253 40 [br 13 0, bi (x2 + r2), bi (x2 + r2), bi r2, v4] [] ι5 Q)
            else
              bW sc 253 40 [br 13 0, bi (x2 + r2), bi (x2 + r2), bi r2, v4] [] ι5 Q)) (bq Q))
        else
          (0 ≤ x2 ∧ x2 < (2001 : Int)) ∧
          (if ι2 102 0 x2 = (2 : Int) then
            (0 ≤ x2 ∧ x2 < (2001 : Int)) ∧
            (0 ≤ x2 ∧ x2 < (2001 : Int)) ∧
            bC sc 166 [br 13 0, bi (ι2 99 0 x2)] ι2 (bk1 (fun r3 ι3 => 
              ((0 ≤ r3 ∧ r3 < 32) ∧ bm_rg (ι2 101 0 x2 * bm_p2 r3)) ∧
              (0 ≤ x2 ∧ x2 < (2001 : Int)) ∧
              (bm_rg (ι2 101 0 x2 * bm_p2 r3 + ι3 100 0 x2)) ∧
              (bm_rg (x2 - x1)) ∧
              (0 ≤ x2 ∧ x2 < (2001 : Int)) ∧
              (bm_rg (x2 + 1)) ∧
              (bm_rg (x2 + 1 + (ι2 101 0 x2 * bm_p2 r3 + ι3 100 0 x2))) ∧
              bC sc 252 [br 13 0, bi (x2 - x1), bi (ι3 99 0 x2), bi (x2 + 1 + (ι2 101 0 x2 * bm_p2 r3 + ι3 100 0 x2)), bi 0, bi 0] ι3 (bk0 (fun ι4 => 
                (bm_rg (x2 + r2)) ∧
                (if r2 = (1 : Int) then
                  (bm_rg (x2 + r2 - 1)) ∧
                  (0 ≤ x2 + r2 - 1 ∧ x2 + r2 - 1 < (2001 : Int)) ∧
                  (if ι4 102 0 (x2 + r2 - 1) = (0 : Int) then
                    bW sc 253 40 [br 13 0, bi x1, bi (x2 + r2), bi r2, bi (ι2 101 0 x2 * bm_p2 r3 + ι3 100 0 x2)] [] ι4 Q
                  else
                    bW sc 253 40 [br 13 0, bi (x2 + r2), bi (x2 + r2), bi r2, bi (ι2 101 0 x2 * bm_p2 r3 + ι3 100 0 x2)] [] ι4 Q)
                else
                  bW sc 253 40 [br 13 0, bi (x2 + r2), bi (x2 + r2), bi r2, bi (ι2 101 0 x2 * bm_p2 r3 + ι3 100 0 x2)] [] ι4 Q)) (bq Q))) (bq Q))
          else
            (bm_rg (x2 + r2)) ∧
            (if r2 = (1 : Int) then
              (bm_rg (x2 + r2 - 1)) ∧
              (0 ≤ x2 + r2 - 1 ∧ x2 + r2 - 1 < (2001 : Int)) ∧
              (if ι2 102 0 (x2 + r2 - 1) = (0 : Int) then
                bW sc 253 40 [br 13 0, bi x1, bi (x2 + r2), bi r2, v4] [] ι2 Q
              else
                bW sc 253 40 [br 13 0, bi (x2 + r2), bi (x2 + r2), bi r2, v4] [] ι2 Q)
            else
              bW sc 253 40 [br 13 0, bi (x2 + r2), bi (x2 + r2), bi r2, v4] [] ι2 Q)))) (bq Q)))) :
  bW sc 253 40 [br 13 0, bi x1, bi x2, v3, v4] [] ι Q := bm_snd 253 [40] 72 h
-- M_countSigns
set_option maxRecDepth 100000 in
theorem e_M_countSigns_0 {sc : bm_Sc} {Q : bm_O → bm_S → Prop}  {ι : bm_S}
  (h : bW sc 254 2 [br 13 0, bi 0] [] ι Q) :
  bC sc 254 [br 13 0] ι Q := bm_snd 254 [2] 3 h
set_option maxRecDepth 100000 in
theorem e_M_countSigns_2 {sc : bm_Sc} {Q : bm_O → bm_S → Prop} {x1 : Int} {ι : bm_S}
  (h : (if (1024 : Int) ≤ x1 then
      Q (.inl none) ι
    else
      (0 ≤ x1 ∧ x1 < (1024 : Int)) ∧
      (bm_rg (x1 + 1)) ∧
      bW sc 254 2 [br 13 0, bi (x1 + 1)] [] (up ι 93 0 x1 0) Q)) :
  bW sc 254 2 [br 13 0, bi x1] [] ι Q := bm_snd 254 [2] 11 h
-- M_writeCodes
set_option maxRecDepth 100000 in
theorem e_M_writeCodes_0 {sc : bm_Sc} {Q : bm_O → bm_S → Prop}  {ι : bm_S}
  (h : bC sc 254 [br 13 0] ι (bk0 (fun ι1 => 
      bW sc 255 6 [br 13 0, bi 0] [] ι1 Q) (bq Q))) :
  bC sc 255 [br 13 0] ι Q := bm_snd 255 [6, 68, 117] 5 h
set_option maxRecDepth 100000 in
theorem e_M_writeCodes_6 {sc : bm_Sc} {Q : bm_O → bm_S → Prop} {x1 : Int} {ι : bm_S}
  (h : (if ι 13 0 59 ≤ x1 then
      bC sc 244 [br 13 0, bi 120, bi 256] ι (bk0 (fun ι1 => 
        bC sc 254 [br 13 0] ι1 (bk0 (fun ι2 => 
          bW sc 255 68 [br 13 0, bi 0] [] ι2 Q) (bq Q))) (bq Q))
    else
      (0 ≤ x1 ∧ x1 < (2001 : Int)) ∧
      (if ι 102 0 x1 = (0 : Int) then
        (0 ≤ x1 ∧ x1 < (2440 : Int)) ∧
        (0 ≤ ι 74 0 x1 % 256 ∧ ι 74 0 x1 % 256 < (1024 : Int)) ∧
        (bm_rg (ι 93 0 (ι 74 0 x1 % 256) + 1)) ∧
        (0 ≤ ι 74 0 x1 % 256 ∧ ι 74 0 x1 % 256 < (1024 : Int)) ∧
        bC sc 247 [br 13 0, bi x1] (up ι 93 0 (ι 74 0 x1 % 256) (ι 93 0 (ι 74 0 x1 % 256) + 1)) (bk1 (fun r4 ι4 => 
          (bm_rg (x1 + r4)) ∧
          bW sc 255 6 [br 13 0, bi (x1 + r4)] [] ι4 Q) (bq Q))
      else
        bC sc 247 [br 13 0, bi x1] ι (bk1 (fun r3 ι3 => 
          (bm_rg (x1 + r3)) ∧
          bW sc 255 6 [br 13 0, bi (x1 + r3)] [] ι3 Q) (bq Q))))) :
  bW sc 255 6 [br 13 0, bi x1] [] ι Q := bm_snd 255 [6, 68, 117] 30 h
set_option maxRecDepth 100000 in
theorem e_M_writeCodes_68 {sc : bm_Sc} {Q : bm_O → bm_S → Prop} {x1 : Int} {ι : bm_S}
  (h : (if ι 13 0 63 ≤ x1 then
      bC sc 244 [br 13 0, bi 3192, bi 704] ι (bk0 (fun ι1 => 
        bC sc 254 [br 13 0] ι1 (bk0 (fun ι2 => 
          bW sc 255 117 [br 13 0, bi 0] [] ι2 Q) (bq Q))) (bq Q))
    else
      (bm_rg (4 * x1)) ∧
      (bm_rg (4 * x1 + 3)) ∧
      (0 ≤ 4 * x1 + 3 ∧ 4 * x1 + 3 < (8100 : Int)) ∧
      (0 ≤ ι 104 0 (4 * x1 + 3) ∧ ι 104 0 (4 * x1 + 3) < (1024 : Int)) ∧
      (bm_rg (ι 93 0 (ι 104 0 (4 * x1 + 3)) + 1)) ∧
      (0 ≤ ι 104 0 (4 * x1 + 3) ∧ ι 104 0 (4 * x1 + 3) < (1024 : Int)) ∧
      (bm_rg (x1 + 1)) ∧
      bW sc 255 68 [br 13 0, bi (x1 + 1)] [] (up ι 93 0 (ι 104 0 (4 * x1 + 3)) (ι 93 0 (ι 104 0 (4 * x1 + 3)) + 1)) Q)) :
  bW sc 255 68 [br 13 0, bi x1] [] ι Q := bm_snd 255 [6, 68, 117] 22 h
set_option maxRecDepth 100000 in
theorem e_M_writeCodes_117 {sc : bm_Sc} {Q : bm_O → bm_S → Prop} {x1 : Int} {ι : bm_S}
  (h : (if ι 13 0 63 ≤ x1 then
      bC sc 244 [br 13 0, bi 11640, bi 64] ι (bk0 (fun ι1 => 
        Q (.inl none) ι1) (bq Q))
    else
      (0 ≤ x1 ∧ x1 < (2100 : Int)) ∧
      (if ι 105 0 x1 < (0 : Int) then
        (bm_rg (x1 + 1)) ∧
        bW sc 255 117 [br 13 0, bi (x1 + 1)] [] ι Q
      else
        (0 ≤ x1 ∧ x1 < (2100 : Int)) ∧
        (0 ≤ ι 105 0 x1 ∧ ι 105 0 x1 < (1024 : Int)) ∧
        (bm_rg (ι 93 0 (ι 105 0 x1) + 1)) ∧
        (0 ≤ ι 105 0 x1 ∧ ι 105 0 x1 < (1024 : Int)) ∧
        (bm_rg (x1 + 1)) ∧
        bW sc 255 117 [br 13 0, bi (x1 + 1)] [] (up ι 93 0 (ι 105 0 x1) (ι 93 0 (ι 105 0 x1) + 1)) Q))) :
  bW sc 255 117 [br 13 0, bi x1] [] ι Q := bm_snd 255 [6, 68, 117] 23 h
-- M_writeCommands
set_option maxRecDepth 100000 in
theorem e_M_writeCommands_0 {sc : bm_Sc} {Q : bm_O → bm_S → Prop}  {ι : bm_S}
  (h : bW sc 256 4 [br 13 0, bi 0, bi 0, bu, bu, bu, bu, bu] [] ι Q) :
  bC sc 256 [br 13 0] ι Q := bm_snd 256 [4, 97] 5 h
set_option maxRecDepth 100000 in
theorem e_M_writeCommands_4 {sc : bm_Sc} {Q : bm_O → bm_S → Prop} {x1 : Int} {x2 : Int} {v3 : bm_V} {v4 : bm_V} {v5 : bm_V} {v6 : bm_V} {v7 : bm_V} {ι : bm_S}
  (h : (if ι 13 0 63 ≤ x2 then
      Q (.inl none) ι
    else
      (bm_rg (4 * x2)) ∧
      (0 ≤ 4 * x2 ∧ 4 * x2 < (8100 : Int)) ∧
      bC sc 249 [bi (ι 104 0 (4 * x2)), bi 1] ι (bk1 (fun r1 ι1 => 
        (0 ≤ x2 ∧ x2 < (2100 : Int)) ∧
        bC sc 249 [bi (ι1 106 0 x2), bi 0] ι1 (bk1 (fun r2 ι2 => 
          (bm_rg (4 * x2)) ∧
          (bm_rg (4 * x2 + 3)) ∧
          (0 ≤ 4 * x2 + 3 ∧ 4 * x2 + 3 < (8100 : Int)) ∧
          bC sc 236 [br 13 0, bi 3192, bi (ι2 104 0 (4 * x2 + 3))] ι2 (bk0 (fun ι3 => 
            bC sc 202 [bi r1] ι3 (bk1 (fun r4 ι4 => 
              (bm_rg (ι 104 0 (4 * x2) - r4)) ∧
              bC sc 200 [bi r1] ι4 (bk1 (fun r5 ι5 => 
                bC sc 234 [br 13 0, bi (ι 104 0 (4 * x2) - r4), bi r5] ι5 (bk0 (fun ι6 => 
                  (0 ≤ x2 ∧ x2 < (2100 : Int)) ∧
                  bC sc 203 [bi r2] ι6 (bk1 (fun r7 ι7 => 
                    (bm_rg (ι6 106 0 x2 - r7)) ∧
                    bC sc 201 [bi r2] ι7 (bk1 (fun r8 ι8 => 
                      bC sc 234 [br 13 0, bi (ι6 106 0 x2 - r7), bi r8] ι8 (bk0 (fun ι9 => 
                        bW sc 256 97 [br 13 0, bi x1, bi x2, bi (ι 104 0 (4 * x2)), bi r1, bi r2, bi 0, v7] [] ι9 Q) (bq Q))) (bq Q))) (bq Q))) (bq Q))) (bq Q))) (bq Q))) (bq Q))) (bq Q))) (bq Q)))) :
  bW sc 256 4 [br 13 0, bi x1, bi x2, v3, v4, v5, v6, v7] [] ι Q := bm_snd 256 [4, 97] 55 h
set_option maxRecDepth 100000 in
theorem e_M_writeCommands_97 {sc : bm_Sc} {Q : bm_O → bm_S → Prop} {x1 : Int} {x2 : Int} {x3 : Int} {v4 : bm_V} {v5 : bm_V} {x6 : Int} {v7 : bm_V} {ι : bm_S}
  (h : (if x3 ≤ x6 then
      (0 ≤ x2 ∧ x2 < (2100 : Int)) ∧
      (if ι 105 0 x2 < (0 : Int) then
        (if ι 13 0 59 ≤ x1 then
          (bm_rg (x2 + 1)) ∧
          bW sc 256 4 [br 13 0, bi x1, bi (x2 + 1), bi x3, v4, v5, bi (ι 105 0 x2), v7] [] ι Q
        else
          bC sc 247 [br 13 0, bi x1] ι (bk1 (fun r1 ι1 => 
            (bm_rg (x1 + r1)) ∧
            (bm_rg (x2 + 1)) ∧
            bW sc 256 4 [br 13 0, bi (x1 + r1), bi (x2 + 1), bi x3, v4, v5, bi (ι 105 0 x2), v7] [] ι1 Q) (bq Q)))
      else
        bC sc 236 [br 13 0, bi 11640, bi (ι 105 0 x2)] ι (bk0 (fun ι2 => 
          (if ι 105 0 x2 ≤ (15 : Int) then
            (if ι2 13 0 59 ≤ x1 then
              (bm_rg (x2 + 1)) ∧
              bW sc 256 4 [br 13 0, bi x1, bi (x2 + 1), bi x3, v4, v5, bi (ι 105 0 x2), v7] [] ι2 Q
            else
              bC sc 247 [br 13 0, bi x1] ι2 (bk1 (fun r3 ι3 => 
                (bm_rg (x1 + r3)) ∧
                (bm_rg (x2 + 1)) ∧
                bW sc 256 4 [br 13 0, bi (x1 + r3), bi (x2 + 1), bi x3, v4, v5, bi (ι 105 0 x2), v7] [] ι3 Q) (bq Q)))
          else
            (bm_rg (ι 105 0 x2 - 16)) ∧
            (0 ≤ ι 105 0 x2 - 16 ∧ 0 < (2 : Int)) ∧
            (bm_rg (1 + (ι 105 0 x2 - 16) / 2)) ∧
            (bm_rg (4 * x2)) ∧
            (bm_rg (4 * x2 + 2)) ∧
            (0 ≤ 4 * x2 + 2 ∧ 4 * x2 + 2 < (8100 : Int)) ∧
            (bm_rg (ι2 104 0 (4 * x2 + 2) + 3)) ∧
            ((0 ≤ 1 + (ι 105 0 x2 - 16) / 2 ∧ 1 + (ι 105 0 x2 - 16) / 2 < 32) ∧ bm_rg (1 * bm_p2 (1 + (ι 105 0 x2 - 16) / 2))) ∧
            (bm_rg (1 * bm_p2 (1 + (ι 105 0 x2 - 16) / 2) - 1)) ∧
            bC sc 234 [br 13 0, bi (bm_band (ι2 104 0 (4 * x2 + 2) + 3) (1 * bm_p2 (1 + (ι 105 0 x2 - 16) / 2) - 1)), bi (1 + (ι 105 0 x2 - 16) / 2)] ι2 (bk0 (fun ι4 => 
              (if ι4 13 0 59 ≤ x1 then
                (bm_rg (x2 + 1)) ∧
                bW sc 256 4 [br 13 0, bi x1, bi (x2 + 1), bi x3, v4, v5, bi (ι 105 0 x2), bi (1 + (ι 105 0 x2 - 16) / 2)] [] ι4 Q
              else
                bC sc 247 [br 13 0, bi x1] ι4 (bk1 (fun r5 ι5 => 
                  (bm_rg (x1 + r5)) ∧
                  (bm_rg (x2 + 1)) ∧
                  bW sc 256 4 [br 13 0, bi (x1 + r5), bi (x2 + 1), bi x3, v4, v5, bi (ι 105 0 x2), bi (1 + (ι 105 0 x2 - 16) / 2)] [] ι5 Q) (bq Q)))) (bq Q)))) (bq Q)))
    else
      (0 ≤ x1 ∧ x1 < (2440 : Int)) ∧
      bC sc 236 [br 13 0, bi 120, bi (ι 74 0 x1 % 256)] ι (bk0 (fun ι6 => 
        (bm_rg (x1 + 1)) ∧
        (bm_rg (x6 + 1)) ∧
        bW sc 256 97 [br 13 0, bi (x1 + 1), bi x2, bi x3, v4, v5, bi (x6 + 1), v7] [] ι6 Q) (bq Q)))) :
  bW sc 256 97 [br 13 0, bi x1, bi x2, bi x3, v4, v5, bi x6, v7] [] ι Q := bm_snd 256 [4, 97] 58 h
-- M_packRaw
set_option maxRecDepth 100000 in
theorem e_M_packRaw_0 {sc : bm_Sc} {Q : bm_O → bm_S → Prop}  {ι : bm_S}
  (h : (if ι 13 0 59 ≤ (0 : Int) then
      bC sc 234 [br 13 0, bi 3, bi 2] ι (bk0 (fun ι1 => 
        Q (.inl none) ι1) (bq Q))
    else
      bC sc 234 [br 13 0, bi 0, bi 1] ι (bk0 (fun ι2 => 
        bC sc 234 [br 13 0, bi 0, bi 2] ι2 (bk0 (fun ι3 => 
          (bm_rg (ι3 13 0 59 - 1)) ∧
          bC sc 234 [br 13 0, bi (ι3 13 0 59 - 1), bi 16] ι3 (bk0 (fun ι4 => 
            bC sc 234 [br 13 0, bi 1, bi 1] ι4 (bk0 (fun ι5 => 
              bC sc 235 [br 13 0] ι5 (bk0 (fun ι6 => 
                bW sc 257 43 [br 13 0, bi 0] [] ι6 Q) (bq Q))) (bq Q))) (bq Q))) (bq Q))) (bq Q)))) :
  bC sc 257 [br 13 0] ι Q := bm_snd 257 [43] 27 h
set_option maxRecDepth 100000 in
theorem e_M_packRaw_43 {sc : bm_Sc} {Q : bm_O → bm_S → Prop} {x1 : Int} {ι : bm_S}
  (h : (if ι 13 0 59 ≤ x1 then
      bC sc 234 [br 13 0, bi 3, bi 2] ι (bk0 (fun ι1 => 
        Q (.inl none) ι1) (bq Q))
    else
      (0 ≤ x1 ∧ x1 < (2440 : Int)) ∧
      bC sc 234 [br 13 0, bi (ι 74 0 x1 % 256), bi 8] ι (bk0 (fun ι2 => 
        (bm_rg (x1 + 1)) ∧
        bW sc 257 43 [br 13 0, bi (x1 + 1)] [] ι2 Q) (bq Q)))) :
  bW sc 257 43 [br 13 0, bi x1] [] ι Q := bm_snd 257 [43] 16 h
-- M_packCoded
set_option maxRecDepth 100000 in
theorem e_M_packCoded_0 {sc : bm_Sc} {Q : bm_O → bm_S → Prop} {x1 : Int} {ι : bm_S}
  (h : (if ι 13 0 59 = (0 : Int) then
      bC sc 234 [br 13 0, bi 3, bi 2] ι (bk0 (fun ι14 => 
        Q (.inl none) ι14) (bq Q))
    else
      bC sc 248 [br 13 0, bi x1] ι (bk0 (fun ι1 => 
        bC sc 253 [br 13 0] ι1 (bk0 (fun ι2 => 
          bC sc 234 [br 13 0, bi 1, bi 1] ι2 (bk0 (fun ι3 => 
            bC sc 234 [br 13 0, bi 0, bi 1] ι3 (bk0 (fun ι4 => 
              bC sc 234 [br 13 0, bi 0, bi 2] ι4 (bk0 (fun ι5 => 
                (bm_rg (ι5 13 0 59 - 1)) ∧
                bC sc 234 [br 13 0, bi (ι5 13 0 59 - 1), bi 16] ι5 (bk0 (fun ι6 => 
                  bC sc 234 [br 13 0, bi 0, bi 3] ι6 (bk0 (fun ι7 => 
                    bC sc 234 [br 13 0, bi 0, bi 2] ι7 (bk0 (fun ι8 => 
                      bC sc 234 [br 13 0, bi 0, bi 4] ι8 (bk0 (fun ι9 => 
                        bC sc 234 [br 13 0, bi 0, bi 2] ι9 (bk0 (fun ι10 => 
                          bC sc 234 [br 13 0, bi 0, bi 2] ι10 (bk0 (fun ι11 => 
                            bC sc 255 [br 13 0] ι11 (bk0 (fun ι12 => 
                              bC sc 256 [br 13 0] ι12 (bk0 (fun ι13 => 
                                Q (.inl none) ι13) (bq Q))) (bq Q))) (bq Q))) (bq Q))) (bq Q))) (bq Q))) (bq Q))) (bq Q))) (bq Q))) (bq Q))) (bq Q))) (bq Q))) (bq Q)))) :
  bC sc 258 [br 13 0, bi x1] ι Q := bm_snd 258 [] 52 h
-- M_pack
set_option maxRecDepth 100000 in
theorem e_M_pack_0 {sc : bm_Sc} {Q : bm_O → bm_S → Prop} {x1 : Int} {ι : bm_S}
  (h : (if (if (0 : Int) ≤ x1 ∧ x1 ≤ (2 : Int) then (1 : Int) else 0) = (0 : Int) then
      Q (.inl (some (bi (-1)))) (up ι 13 0 0 0)
    else
      (if ι 13 0 3 ≤ (2000 : Int) then
        bW sc 259 31 [br 13 0, bi x1, bi 0] [] (up ι 13 0 0 0) Q
      else
        Q (.inl (some (bi (-1)))) (up ι 13 0 0 0)))) :
  bC sc 259 [br 13 0, bi x1] ι Q := bm_snd 259 [31] 16 h
set_option maxRecDepth 100000 in
theorem e_M_pack_31 {sc : bm_Sc} {Q : bm_O → bm_S → Prop} {x1 : Int} {x2 : Int} {ι : bm_S}
  (h : (if ι 13 0 3 ≤ x2 then
      bC sc 158 [br 13 0] (up ι 13 0 59 (ι 13 0 3)) (bk0 (fun ι1 => 
        bC sc 164 [br 13 0] (up (up (up ι1 13 0 6 0) 13 0 43 0) 13 0 63 0) (bk1 (fun r2 ι2 => 
          bC sc 234 [br 13 0, bi r2, bi 16] ι2 (bk0 (fun ι3 => 
            bC sc 234 [br 13 0, bi 0, bi 1] ι3 (bk0 (fun ι4 => 
              (if x1 = (0 : Int) then
                bC sc 257 [br 13 0] ι4 (bk0 (fun ι6 => 
                  Q (.inl (some (bi (ι6 13 0 6)))) ι6) (bq Q))
              else
                bC sc 258 [br 13 0, bi x1] ι4 (bk0 (fun ι5 => 
                  Q (.inl (some (bi (ι5 13 0 6)))) ι5) (bq Q)))) (bq Q))) (bq Q))) (bq Q))) (bq Q))
    else
      (0 ≤ x2 ∧ x2 < (2440 : Int)) ∧
      (0 ≤ x2 ∧ x2 < (2440 : Int)) ∧
      (bm_rg (x2 + 1)) ∧
      bW sc 259 31 [br 13 0, bi x1, bi (x2 + 1)] [] (up ι 74 0 x2 (bm_byte (ι 66 0 x2))) Q)) :
  bW sc 259 31 [br 13 0, bi x1, bi x2] [] ι Q := bm_snd 259 [31] 36 h
