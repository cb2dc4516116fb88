-- O_openAll
set_option maxRecDepth 100000 in
theorem e_O_openAll_0 {sc : bm_Sc} {Q : bm_O → bm_S → Prop}  {ι : bm_S}
  (h : bC sc 70 [br 8 0] ι (bk0 (fun ι1 => 
      bC sc 72 [br 8 0] ι1 (bk0 (fun ι2 => 
        bW sc 69 10 [br 8 0, bi 0, bu] [] ι2 Q) (bq Q))) (bq Q))) :
  bC sc 69 [br 8 0] ι Q := bm_snd 69 [10, 77] 7 h
set_option maxRecDepth 100000 in
theorem e_O_openAll_10 {sc : bm_Sc} {Q : bm_O → bm_S → Prop} {x1 : Int} {v2 : bm_V} {ι : bm_S}
  (h : (if (19200 : Int) ≤ x1 then
      bC sc 71 [br 8 0] ι (bk1 (fun r1 ι1 => 
        Q (.inl (some (bi r1))) ι1) (bq Q))
    else
      (if ι 8 0 15 = (0 : Int) then
        bC sc 2 [br 0 0] ι (bk1 (fun r3 ι3 => 
          (if r3 = (0 : Int) then
            bC sc 71 [br 8 0] ι3 (bk1 (fun r4 ι4 => 
              Q (.inl (some (bi r4))) ι4) (bq Q))
          else
            bC sc 74 [br 8 0] ι3 (bk1 (fun r5 ι5 => 
              (if r5 = (3 : Int) then
                bC sc 81 [br 8 0, bi 0] ι5 (bk0 (fun ι6 => 
                  bC sc 81 [br 8 0, bi 1] ι6 (bk0 (fun ι7 => 
                    bC sc 81 [br 8 0, bi 2] ι7 (bk0 (fun ι8 => 
                      bC sc 82 [br 8 0] ι8 (bk0 (fun ι9 => 
                        bC sc 83 [br 8 0, bi 0] ι9 (bk0 (fun ι10 => 
                          bC sc 83 [br 8 0, bi 1] ι10 (bk0 (fun ι11 => 
                            bC sc 86 [br 8 0] ι11 (bk0 (fun ι12 => 
                              bW sc 69 77 [br 8 0, bi x1, bi 0] [] ι12 Q) (bq Q))) (bq Q))) (bq Q))) (bq Q))) (bq Q))) (bq Q))) (bq Q))
              else
                (bm_rg (x1 + 1)) ∧
                bW sc 69 10 [br 8 0, bi (x1 + 1), v2] [] ι5 Q)) (bq Q)))) (bq Q))
      else
        bC sc 71 [br 8 0] ι (bk1 (fun r2 ι2 => 
          Q (.inl (some (bi r2))) ι2) (bq Q))))) :
  bW sc 69 10 [br 8 0, bi x1, v2] [] ι Q := bm_snd 69 [10, 77] 36 h
set_option maxRecDepth 100000 in
theorem e_O_openAll_77 {sc : bm_Sc} {Q : bm_O → bm_S → Prop} {x1 : Int} {x2 : Int} {ι : bm_S}
  (h : (if (3000 : Int) ≤ x2 then
      (bm_rg (x1 + 1)) ∧
      bW sc 69 10 [br 8 0, bi (x1 + 1), bi x2] [] ι Q
    else
      (if ι 8 0 14 ≤ ι 2 1 1 then
        (bm_rg (x1 + 1)) ∧
        bW sc 69 10 [br 8 0, bi (x1 + 1), bi x2] [] ι Q
      else
        bC sc 2 [br 0 0] ι (bk1 (fun r1 ι1 => 
          (if r1 = (0 : Int) then
            (bm_rg (x1 + 1)) ∧
            bW sc 69 10 [br 8 0, bi (x1 + 1), bi x2] [] ι1 Q
          else
            bC sc 87 [br 8 0] ι1 (bk0 (fun ι2 => 
              (bm_rg (x2 + 1)) ∧
              bW sc 69 77 [br 8 0, bi x1, bi (x2 + 1)] [] ι2 Q) (bq Q)))) (bq Q))))) :
  bW sc 69 77 [br 8 0, bi x1, bi x2] [] ι Q := bm_snd 69 [10, 77] 18 h
-- O_begin
set_option maxRecDepth 100000 in
theorem e_O_begin_0 {sc : bm_Sc} {Q : bm_O → bm_S → Prop}  {ι : bm_S}
  (h : bC sc 1 [br 0 0] ι (bk0 (fun ι1 => 
      bC sc 16 [br 2 1, bi 0] ι1 (bk0 (fun ι2 => 
        bC sc 142 [br 51 0] ι2 (bk0 (fun ι3 => 
          ((0 : Int) = 0 ∨ (0 : Int) = 1) ∧
          ((0 : Int) = 0 ∨ (0 : Int) = 1) ∧
          Q (.inl none) (up (up (up ι3 8 0 3 0) 8 0 5 0) 8 0 15 0)) (bq Q))) (bq Q))) (bq Q))) :
  bC sc 70 [br 8 0] ι Q := bm_snd 70 [] 20 h
-- O_finish
set_option maxRecDepth 100000 in
theorem e_O_finish_0 {sc : bm_Sc} {Q : bm_O → bm_S → Prop}  {ι : bm_S}
  (h : bC sc 6 [br 0 0] ι (bk0 (fun ι1 => 
      (if ι1 0 0 2 ≤ ι1 0 0 1 then
        bC sc 2 [br 0 0] ι1 (bk1 (fun r2 ι2 => 
          (if r2 = (0 : Int) then
            bC sc 16 [br 2 1, bi 0] ι2 (bk0 (fun ι3 => 
              (bm_rg ((-10) - ι3 0 0 3)) ∧
              Q (.inl (some (bi ((-10) - ι3 0 0 3)))) ι3) (bq Q))
          else
            Q (.inl (some (bi (ι2 2 1 1)))) ι2)) (bq Q))
      else
        bC sc 3 [br 0 0, bi 16] ι1 (bk0 (fun ι4 => 
          bC sc 2 [br 0 0] ι4 (bk1 (fun r5 ι5 => 
            (if r5 = (0 : Int) then
              bC sc 16 [br 2 1, bi 0] ι5 (bk0 (fun ι6 => 
                (bm_rg ((-10) - ι6 0 0 3)) ∧
                Q (.inl (some (bi ((-10) - ι6 0 0 3)))) ι6) (bq Q))
            else
              Q (.inl (some (bi (ι5 2 1 1)))) ι5)) (bq Q))) (bq Q)))) (bq Q))) :
  bC sc 71 [br 8 0] ι Q := bm_snd 71 [] 28 h
-- O_readSpan
set_option maxRecDepth 100000 in
theorem e_O_readSpan_0 {sc : bm_Sc} {Q : bm_O → bm_S → Prop}  {ι : bm_S}
  (h : bC sc 4 [br 0 0, bi 16] ι (bk1 (fun r1 ι1 => 
      bC sc 114 [br 10 0] ι1 (bk1 (fun r2 ι2 => 
        (if r1 = r2 then
          bC sc 4 [br 0 0, bi 1] ι2 (bk1 (fun r3 ι3 => 
            (if r3 = (1 : Int) then
              bC sc 4 [br 0 0, bi 3] ι3 (bk1 (fun r4 ι4 => 
                (if r4 ≤ (0 : Int) then
                  bC sc 4 [br 0 0, bi 3] ι4 (bk1 (fun r5 ι5 => 
                    bC sc 73 [br 8 0, bi r5] ι5 (bk1 (fun r6 ι6 => 
                      ((0 ≤ r6 ∧ r6 < 32) ∧ bm_rg (1 * bm_p2 r6)) ∧
                      (bm_rg (1 * bm_p2 r6 - 16)) ∧
                      Q (.inl none) (up ι6 8 0 13 (1 * bm_p2 r6 - 16))) (bq Q))) (bq Q))
                else
                  (bm_rg (17 + r4)) ∧
                  ((0 ≤ 17 + r4 ∧ 17 + r4 < 32) ∧ bm_rg (1 * bm_p2 (17 + r4))) ∧
                  (bm_rg (1 * bm_p2 (17 + r4) - 16)) ∧
                  Q (.inl none) (up ι4 8 0 13 (1 * bm_p2 (17 + r4) - 16)))) (bq Q))
            else
              ((0 ≤ (16 : Int) ∧ (16 : Int) < 32) ∧ bm_rg (1 * 65536)) ∧
              (bm_rg (1 * 65536 - 16)) ∧
              Q (.inl none) (up ι3 8 0 13 (1 * 65536 - 16)))) (bq Q))
        else
          bC sc 3 [br 0 0, bi 2] ι2 (bk0 (fun ι7 => 
            bC sc 4 [br 0 0, bi 1] ι7 (bk1 (fun r8 ι8 => 
              (if r8 = (1 : Int) then
                bC sc 4 [br 0 0, bi 3] ι8 (bk1 (fun r9 ι9 => 
                  (if r9 ≤ (0 : Int) then
                    bC sc 4 [br 0 0, bi 3] ι9 (bk1 (fun r10 ι10 => 
                      bC sc 73 [br 8 0, bi r10] ι10 (bk1 (fun r11 ι11 => 
                        ((0 ≤ r11 ∧ r11 < 32) ∧ bm_rg (1 * bm_p2 r11)) ∧
                        (bm_rg (1 * bm_p2 r11 - 16)) ∧
                        Q (.inl none) (up ι11 8 0 13 (1 * bm_p2 r11 - 16))) (bq Q))) (bq Q))
                  else
                    (bm_rg (17 + r9)) ∧
                    ((0 ≤ 17 + r9 ∧ 17 + r9 < 32) ∧ bm_rg (1 * bm_p2 (17 + r9))) ∧
                    (bm_rg (1 * bm_p2 (17 + r9) - 16)) ∧
                    Q (.inl none) (up ι9 8 0 13 (1 * bm_p2 (17 + r9) - 16)))) (bq Q))
              else
                ((0 ≤ (16 : Int) ∧ (16 : Int) < 32) ∧ bm_rg (1 * 65536)) ∧
                (bm_rg (1 * 65536 - 16)) ∧
                Q (.inl none) (up ι8 8 0 13 (1 * 65536 - 16)))) (bq Q))) (bq Q)))) (bq Q))) (bq Q))) :
  bC sc 72 [br 8 0] ι Q := bm_snd 72 [] 42 h
-- O_shortSpan
set_option maxRecDepth 100000 in
theorem e_O_shortSpan_0 {sc : bm_Sc} {Q : bm_O → bm_S → Prop} {x1 : Int} {ι : bm_S}
  (h : (if x1 = (1 : Int) then
      bC sc 3 [br 0 0, bi 3] ι (bk0 (fun ι1 => 
        (if x1 = (0 : Int) then
          Q (.inl (some (bi 17))) ι1
        else
          (bm_rg (8 + x1)) ∧
          Q (.inl (some (bi (8 + x1)))) ι1)) (bq Q))
    else
      (if x1 = (0 : Int) then
        Q (.inl (some (bi 17))) ι
      else
        (bm_rg (8 + x1)) ∧
        Q (.inl (some (bi (8 + x1)))) ι))) :
  bC sc 73 [br 8 0, bi x1] ι Q := bm_snd 73 [] 13 h
-- O_readPart
set_option maxRecDepth 100000 in
theorem e_O_readPart_0 {sc : bm_Sc} {Q : bm_O → bm_S → Prop}  {ι : bm_S}
  (h : bC sc 4 [br 0 0, bi 1] ι (bk1 (fun r1 ι1 => 
      (if r1 = (1 : Int) then
        bC sc 4 [br 0 0, bi 1] ι1 (bk1 (fun r12 ι12 => 
          (if r12 = (1 : Int) then
            bC sc 77 [br 8 0, bi 0, bi 0] ι12 (bk0 (fun ι18 => 
              ((1 : Int) = 0 ∨ (1 : Int) = 1) ∧
              Q (.inl (some (bi 0))) (up ι18 8 0 15 1)) (bq Q))
          else
            bC sc 4 [br 0 0, bi 2] ι12 (bk1 (fun r13 ι13 => 
              (if r13 = (3 : Int) then
                bC sc 76 [br 8 0, bi 1] ι13 (bk0 (fun ι17 => 
                  Q (.inl (some (bi 1))) ι17) (bq Q))
              else
                bC sc 75 [br 8 0, bi r13] ι13 (bk1 (fun r14 ι14 => 
                  bC sc 2 [br 0 0] ι14 (bk1 (fun r15 ι15 => 
                    (if r15 = (0 : Int) then
                      Q (.inl (some (bi 0))) ι15
                    else
                      ((1 : Int) = 0 ∨ (1 : Int) = 1) ∧
                      bC sc 77 [br 8 0, bi 3, bi r14] (up ι15 8 0 15 1) (bk0 (fun ι16 => 
                        (bm_rg (ι16 2 1 1 + r14)) ∧
                        Q (.inl (some (bi 3))) (up ι16 8 0 14 (ι16 2 1 1 + r14))) (bq Q)))) (bq Q))) (bq Q)))) (bq Q)))) (bq Q))
      else
        bC sc 4 [br 0 0, bi 2] ι1 (bk1 (fun r2 ι2 => 
          (if r2 = (3 : Int) then
            bC sc 76 [br 8 0, bi 0] ι2 (bk0 (fun ι11 => 
              Q (.inl (some (bi 1))) ι11) (bq Q))
          else
            bC sc 75 [br 8 0, bi r2] ι2 (bk1 (fun r3 ι3 => 
              bC sc 4 [br 0 0, bi 1] ι3 (bk1 (fun r4 ι4 => 
                (if r4 = (1 : Int) then
                  bC sc 2 [br 0 0] ι4 (bk1 (fun r7 ι7 => 
                    (if r7 = (0 : Int) then
                      Q (.inl (some (bi 0))) ι7
                    else
                      ((0 : Int) = 0 ∨ (0 : Int) = 1) ∧
                      bC sc 77 [br 8 0, bi 2, bi r3] (up ι7 8 0 15 0) (bk0 (fun ι8 => 
                        bC sc 6 [br 0 0] ι8 (bk0 (fun ι9 => 
                          bC sc 8 [br 0 0, br 2 1, bi r3] ι9 (bk0 (fun ι10 => 
                            Q (.inl (some (bi 2))) ι10) (bq Q))) (bq Q))) (bq Q)))) (bq Q))
                else
                  bC sc 2 [br 0 0] ι4 (bk1 (fun r5 ι5 => 
                    (if r5 = (0 : Int) then
                      Q (.inl (some (bi 0))) ι5
                    else
                      ((0 : Int) = 0 ∨ (0 : Int) = 1) ∧
                      bC sc 77 [br 8 0, bi 3, bi r3] (up ι5 8 0 15 0) (bk0 (fun ι6 => 
                        (bm_rg (ι6 2 1 1 + r3)) ∧
                        Q (.inl (some (bi 3))) (up ι6 8 0 14 (ι6 2 1 1 + r3))) (bq Q)))) (bq Q)))) (bq Q))) (bq Q)))) (bq Q)))) (bq Q))) :
  bC sc 74 [br 8 0] ι Q := bm_snd 74 [] 60 h
-- O_readSize
set_option maxRecDepth 100000 in
theorem e_O_readSize_0 {sc : bm_Sc} {Q : bm_O → bm_S → Prop} {x1 : Int} {ι : bm_S}
  (h : (bm_rg (4 * x1)) ∧
    (bm_rg (16 + 4 * x1)) ∧
    bC sc 4 [br 0 0, bi (16 + 4 * x1)] ι (bk1 (fun r1 ι1 => 
      (if x1 ≤ (0 : Int) then
        (bm_rg (3000 - ι1 2 1 1)) ∧
        (if r1 < 3000 - ι1 2 1 1 then
          (bm_rg (r1 + 1)) ∧
          Q (.inl (some (bi (r1 + 1)))) ι1
        else
          bC sc 3 [br 0 0, bi 17] ι1 (bk0 (fun ι2 => 
            (bm_rg (r1 + 1)) ∧
            Q (.inl (some (bi (r1 + 1)))) ι2) (bq Q)))
      else
        (bm_rg (4 * x1)) ∧
        (bm_rg (12 + 4 * x1)) ∧
        (0 ≤ 12 + 4 * x1 ∧ 12 + 4 * x1 < 32) ∧
        (if r1 / bm_p2 (12 + 4 * x1) = (0 : Int) then
          bC sc 3 [br 0 0, bi 5] ι1 (bk0 (fun ι4 => 
            (bm_rg (3000 - ι4 2 1 1)) ∧
            (if r1 < 3000 - ι4 2 1 1 then
              (bm_rg (r1 + 1)) ∧
              Q (.inl (some (bi (r1 + 1)))) ι4
            else
              bC sc 3 [br 0 0, bi 17] ι4 (bk0 (fun ι5 => 
                (bm_rg (r1 + 1)) ∧
                Q (.inl (some (bi (r1 + 1)))) ι5) (bq Q)))) (bq Q))
        else
          (bm_rg (3000 - ι1 2 1 1)) ∧
          (if r1 < 3000 - ι1 2 1 1 then
            (bm_rg (r1 + 1)) ∧
            Q (.inl (some (bi (r1 + 1)))) ι1
          else
            bC sc 3 [br 0 0, bi 17] ι1 (bk0 (fun ι3 => 
              (bm_rg (r1 + 1)) ∧
              Q (.inl (some (bi (r1 + 1)))) ι3) (bq Q)))))) (bq Q))) :
  bC sc 75 [br 8 0, bi x1] ι Q := bm_snd 75 [] 38 h
-- O_passOver
set_option maxRecDepth 100000 in
theorem e_O_passOver_0 {sc : bm_Sc} {Q : bm_O → bm_S → Prop} {x1 : Int} {ι : bm_S}
  (h : (if x1 = (0 : Int) then
      bC sc 77 [br 8 0, bi 1, bi 0] ι (bk0 (fun ι1 => 
        bC sc 4 [br 0 0, bi 1] ι1 (bk1 (fun r2 ι2 => 
          (if r2 = (1 : Int) then
            bC sc 3 [br 0 0, bi 4] ι2 (bk0 (fun ι3 => 
              bW sc 76 39 [br 8 0, bi x1, bu, bu] [] ι3 Q) (bq Q))
          else
            bW sc 76 39 [br 8 0, bi x1, bu, bu] [] ι2 Q)) (bq Q))) (bq Q))
    else
      bC sc 3 [br 0 0, bi 4] ι (bk0 (fun ι4 => 
        Q (.inl none) ι4) (bq Q)))) :
  bC sc 76 [br 8 0, bi x1] ι Q := bm_snd 76 [39, 84] 17 h
set_option maxRecDepth 100000 in
theorem e_O_passOver_39 {sc : bm_Sc} {Q : bm_O → bm_S → Prop} {v1 : bm_V} {v2 : bm_V} {v3 : bm_V} {ι : bm_S}
  (h : bC sc 4 [br 0 0, bi 2] ι (bk1 (fun r1 ι1 => 
      (bm_rg (8 * r1)) ∧
      bC sc 4 [br 0 0, bi (8 * r1)] ι1 (bk1 (fun r2 ι2 => 
        (if r1 ≤ (1 : Int) then
          bW sc 76 84 [br 8 0, v1, bi r1, bi r2] [] ι2 Q
        else
          (bm_rg (r1 - 1)) ∧
          (bm_rg (8 * (r1 - 1))) ∧
          (0 ≤ 8 * (r1 - 1) ∧ 8 * (r1 - 1) < 32) ∧
          (if r2 / bm_p2 (8 * (r1 - 1)) = (0 : Int) then
            bC sc 3 [br 0 0, bi 5] ι2 (bk0 (fun ι3 => 
              bW sc 76 84 [br 8 0, v1, bi r1, bi r2] [] ι3 Q) (bq Q))
          else
            bW sc 76 84 [br 8 0, v1, bi r1, bi r2] [] ι2 Q))) (bq Q))) (bq Q))) :
  bW sc 76 39 [br 8 0, v1, v2, v3] [] ι Q := bm_snd 76 [39, 84] 28 h
set_option maxRecDepth 100000 in
theorem e_O_passOver_84 {sc : bm_Sc} {Q : bm_O → bm_S → Prop} {v1 : bm_V} {x2 : Int} {x3 : Int} {ι : bm_S}
  (h : (if x2 ≤ (0 : Int) then
      bC sc 6 [br 0 0] ι (bk0 (fun ι1 => 
        (if x2 ≤ (0 : Int) then
          Q (.inl none) ι1
        else
          (bm_rg (x3 + 1)) ∧
          bC sc 7 [br 0 0, bi (x3 + 1)] ι1 (bk0 (fun ι2 => 
            Q (.inl none) ι2) (bq Q)))) (bq Q))
    else
      bC sc 2 [br 0 0] ι (bk1 (fun r3 ι3 => 
        (if r3 = (0 : Int) then
          bC sc 6 [br 0 0] ι3 (bk0 (fun ι4 => 
            (if x2 ≤ (0 : Int) then
              Q (.inl none) ι4
            else
              (bm_rg (x3 + 1)) ∧
              bC sc 7 [br 0 0, bi (x3 + 1)] ι4 (bk0 (fun ι5 => 
                Q (.inl none) ι5) (bq Q)))) (bq Q))
        else
          (bm_rg (x3 + 1)) ∧
          bC sc 78 [br 8 0, bi 1, bi (x3 + 1)] ι3 (bk0 (fun ι6 => 
            bC sc 6 [br 0 0] ι6 (bk0 (fun ι7 => 
              (if x2 ≤ (0 : Int) then
                Q (.inl none) ι7
              else
                (bm_rg (x3 + 1)) ∧
                bC sc 7 [br 0 0, bi (x3 + 1)] ι7 (bk0 (fun ι8 => 
                  Q (.inl none) ι8) (bq Q)))) (bq Q))) (bq Q)))) (bq Q)))) :
  bW sc 76 84 [br 8 0, v1, bi x2, bi x3] [] ι Q := bm_snd 76 [39, 84] 24 h
-- O_addPart
set_option maxRecDepth 100000 in
theorem e_O_addPart_0 {sc : bm_Sc} {Q : bm_O → bm_S → Prop} {x1 : Int} {x2 : Int} {ι : bm_S}
  (h : bC sc 2 [br 0 0] ι (bk1 (fun r1 ι1 => 
      (if r1 = (0 : Int) then
        Q (.inl none) ι1
      else
        (bm_rg (ι1 8 0 3 + 1)) ∧
        bW sc 77 23 [br 8 0, bi x1, bi x2, bi 0] [] (up ι1 8 0 3 (ι1 8 0 3 + 1)) Q)) (bq Q))) :
  bC sc 77 [br 8 0, bi x1, bi x2] ι Q := bm_snd 77 [23] 13 h
set_option maxRecDepth 100000 in
theorem e_O_addPart_23 {sc : bm_Sc} {Q : bm_O → bm_S → Prop} {x1 : Int} {x2 : Int} {x3 : Int} {ι : bm_S}
  (h : (if (12 : Int) ≤ x3 then
      bC sc 78 [br 8 0, bi 0, bi x1] ι (bk0 (fun ι1 => 
        bC sc 78 [br 8 0, bi 1, bi x2] ι1 (bk0 (fun ι2 => 
          Q (.inl none) ι2) (bq Q))) (bq Q))
    else
      bC sc 78 [br 8 0, bi x3, bi 0] ι (bk0 (fun ι3 => 
        (bm_rg (x3 + 1)) ∧
        bW sc 77 23 [br 8 0, bi x1, bi x2, bi (x3 + 1)] [] ι3 Q) (bq Q)))) :
  bW sc 77 23 [br 8 0, bi x1, bi x2, bi x3] [] ι Q := bm_snd 77 [23] 12 h
-- O_note
set_option maxRecDepth 100000 in
theorem e_O_note_0 {sc : bm_Sc} {Q : bm_O → bm_S → Prop} {x1 : Int} {x2 : Int} {ι : bm_S}
  (h : (if ι 8 0 3 ≤ (0 : Int) then
      Q (.inl none) ι
    else
      (if (60 : Int) < ι 8 0 3 then
        Q (.inl none) ι
      else
        (bm_rg (ι 8 0 3 - 1)) ∧
        (bm_rg ((ι 8 0 3 - 1) * 12)) ∧
        (bm_rg ((ι 8 0 3 - 1) * 12 + x1)) ∧
        (0 ≤ (ι 8 0 3 - 1) * 12 + x1 ∧ (ι 8 0 3 - 1) * 12 + x1 < (720 : Int)) ∧
        Q (.inl none) (up ι 52 0 ((ι 8 0 3 - 1) * 12 + x1) x2)))) :
  bC sc 78 [br 8 0, bi x1, bi x2] ι Q := bm_snd 78 [] 20 h
-- O_noteOneMore
set_option maxRecDepth 100000 in
theorem e_O_noteOneMore_0 {sc : bm_Sc} {Q : bm_O → bm_S → Prop} {x1 : Int} {ι : bm_S}
  (h : (if ι 8 0 3 ≤ (0 : Int) then
      Q (.inl none) ι
    else
      (if (60 : Int) < ι 8 0 3 then
        Q (.inl none) ι
      else
        (bm_rg (ι 8 0 3 - 1)) ∧
        (bm_rg ((ι 8 0 3 - 1) * 12)) ∧
        (bm_rg ((ι 8 0 3 - 1) * 12 + x1)) ∧
        (0 ≤ (ι 8 0 3 - 1) * 12 + x1 ∧ (ι 8 0 3 - 1) * 12 + x1 < (720 : Int)) ∧
        (bm_rg (ι 52 0 ((ι 8 0 3 - 1) * 12 + x1) + 1)) ∧
        (0 ≤ (ι 8 0 3 - 1) * 12 + x1 ∧ (ι 8 0 3 - 1) * 12 + x1 < (720 : Int)) ∧
        Q (.inl none) (up ι 52 0 ((ι 8 0 3 - 1) * 12 + x1) (ι 52 0 ((ι 8 0 3 - 1) * 12 + x1) + 1))))) :
  bC sc 79 [br 8 0, bi x1] ι Q := bm_snd 79 [] 23 h
-- O_readHowMany
set_option maxRecDepth 100000 in
theorem e_O_readHowMany_0 {sc : bm_Sc} {Q : bm_O → bm_S → Prop}  {ι : bm_S}
  (h : bC sc 4 [br 0 0, bi 1] ι (bk1 (fun r1 ι1 => 
      (if r1 = (0 : Int) then
        Q (.inl (some (bi 1))) ι1
      else
        bC sc 4 [br 0 0, bi 3] ι1 (bk1 (fun r2 ι2 => 
          ((0 ≤ r2 ∧ r2 < 32) ∧ bm_rg (1 * bm_p2 r2)) ∧
          (bm_rg (1 + 1 * bm_p2 r2)) ∧
          bC sc 4 [br 0 0, bi r2] ι2 (bk1 (fun r3 ι3 => 
            (bm_rg (1 + 1 * bm_p2 r2 + r3)) ∧
            (if 1 + 1 * bm_p2 r2 + r3 ≤ (12 : Int) then
              Q (.inl (some (bi (1 + 1 * bm_p2 r2 + r3)))) ι3
            else
              bC sc 3 [br 0 0, bi 7] ι3 (bk0 (fun ι4 => 
                Q (.inl (some (bi (1 + 1 * bm_p2 r2 + r3)))) ι4) (bq Q)))) (bq Q))) (bq Q)))) (bq Q))) :
  bC sc 80 [br 8 0] ι Q := bm_snd 80 [] 30 h
-- O_readKinds
set_option maxRecDepth 100000 in
theorem e_O_readKinds_0 {sc : bm_Sc} {Q : bm_O → bm_S → Prop} {x1 : Int} {ι : bm_S}
  (h : bC sc 80 [br 8 0] ι (bk1 (fun r1 ι1 => 
      bC sc 2 [br 0 0] ι1 (bk1 (fun r2 ι2 => 
        (if r2 = (0 : Int) then
          Q (.inl none) ι2
        else
          (bm_rg (2 + x1)) ∧
          bC sc 78 [br 8 0, bi (2 + x1), bi r1] ι2 (bk0 (fun ι3 => 
            ((0 : Int) = 0) ∧
            (0 ≤ x1 ∧ x1 < (3 : Int)) ∧
            (0 ≤ x1 ∧ x1 < 3) ∧
            bC sc 10 [br 1 x1, bi r1] (up ι3 43 (ι3 8 0 6) x1 r1) (bk0 (fun ι4 => 
              (if r1 ≤ (1 : Int) then
                Q (.inl none) ι4
              else
                (bm_rg (r1 + 2)) ∧
                bC sc 26 [br 4 0, br 3 (74 + 2 * x1), bi (r1 + 2)] ι4 (bk0 (fun ι5 => 
                  bC sc 26 [br 4 0, br 3 (75 + 2 * x1), bi 26] ι5 (bk0 (fun ι6 => 
                    bC sc 11 [br 1 x1, br 0 0] ι6 (bk0 (fun ι7 => 
                      Q (.inl none) ι7) (bq Q))) (bq Q))) (bq Q)))) (bq Q))) (bq Q)))) (bq Q))) (bq Q))) :
  bC sc 81 [br 8 0, bi x1] ι Q := bm_snd 81 [] 49 h
-- O_readForm
set_option maxRecDepth 100000 in
theorem e_O_readForm_0 {sc : bm_Sc} {Q : bm_O → bm_S → Prop}  {ι : bm_S}
  (h : ((0 : Int) = 0) ∧
    bC sc 4 [br 0 0, bi 2] ι (bk1 (fun r1 ι1 => 
      ((0 : Int) = 0) ∧
      bC sc 78 [br 8 0, bi 7, bi ((up ι1 7 (ι 8 0 6) 8 r1) 7 (ι1 8 0 6) 8)] (up ι1 7 (ι 8 0 6) 8 r1) (bk0 (fun ι2 => 
        ((0 : Int) = 0) ∧
        bC sc 4 [br 0 0, bi 4] ι2 (bk1 (fun r3 ι3 => 
          ((0 : Int) = 0) ∧
          ((0 ≤ ι3 7 (ι3 8 0 6) 8 ∧ ι3 7 (ι3 8 0 6) 8 < 32) ∧ bm_rg (r3 * bm_p2 (ι3 7 (ι3 8 0 6) 8))) ∧
          ((0 : Int) = 0) ∧
          bC sc 78 [br 8 0, bi 8, bi ((up ι3 7 (ι2 8 0 6) 9 (r3 * bm_p2 (ι3 7 (ι3 8 0 6) 8))) 7 (ι3 8 0 6) 9)] (up ι3 7 (ι2 8 0 6) 9 (r3 * bm_p2 (ι3 7 (ι3 8 0 6) 8))) (bk0 (fun ι4 => 
            bW sc 82 66 [br 8 0, bi 0] [] ι4 Q) (bq Q))) (bq Q))) (bq Q))) (bq Q))) :
  bC sc 82 [br 8 0] ι Q := bm_snd 82 [66] 33 h
set_option maxRecDepth 100000 in
theorem e_O_readForm_66 {sc : bm_Sc} {Q : bm_O → bm_S → Prop} {x1 : Int} {ι : bm_S}
  (h : (if (12 : Int) ≤ x1 then
      Q (.inl none) ι
    else
      ((0 : Int) = 0) ∧
      (0 ≤ (0 : Int) ∧ (0 : Int) < (3 : Int)) ∧
      (if ι 43 (ι 8 0 6) 0 ≤ x1 then
        Q (.inl none) ι
      else
        ((0 : Int) = 0) ∧
        bC sc 4 [br 0 0, bi 2] ι (bk1 (fun r1 ι1 => 
          (0 ≤ x1 ∧ x1 < (12 : Int)) ∧
          (bm_rg (x1 + 1)) ∧
          bW sc 82 66 [br 8 0, bi (x1 + 1)] [] (up ι1 45 (ι 8 0 6) x1 r1) Q) (bq Q))))) :
  bW sc 82 66 [br 8 0, bi x1] [] ι Q := bm_snd 82 [66] 22 h
-- O_readTrees
set_option maxRecDepth 100000 in
theorem e_O_readTrees_46_0 {sc : bm_Sc} {Q : bm_O → bm_S → Prop} {x1 : Int} {ι : bm_S}
  (h : bC sc 80 [br 8 0] ι (bk1 (fun r1 ι1 => 
      bC sc 2 [br 0 0] ι1 (bk1 (fun r2 ι2 => 
        (if r2 = (0 : Int) then
          Q (.inl none) ι2
        else
          (bm_rg (5 + x1)) ∧
          bC sc 78 [br 8 0, bi (5 + x1), bi r1] ι2 (bk0 (fun ι3 => 
            ((0 : Int) = 0) ∧
            (0 ≤ x1 ∧ x1 < (2 : Int)) ∧
            ((0 : Int) = 0) ∧
            bC sc 63 [br 7 (ι3 8 0 6), bi x1] (up ι3 44 (ι3 8 0 6) x1 r1) (bk2 (fun t4 r4 ι4 => 
              bW sc 83 42 [br 8 0, bi x1, bi r1, bu, bu, bu] [br t4 r4] ι4 Q) (bq Q))) (bq Q)))) (bq Q))) (bq Q))) :
  bC sc 83 [br 8 0, bi x1] ι Q := bm_snd 83 [42] 24 h
set_option maxRecDepth 100000 in
theorem e_O_readTrees_46_42 {sc : bm_Sc} {Q : bm_O → bm_S → Prop} {x1 : Int} {x2 : Int} {v3 : bm_V} {v4 : bm_V} {v5 : bm_V} {ns0 : Int} {ι : bm_S}
  (h : ((0 : Int) = 0) ∧
    bC sc 64 [br 7 (ι 8 0 6), bi x1] ι (bk1 (fun r1 ι1 => 
      bC sc 260 [br 46 ns0, bi 0] ι1 (bk0 (fun ι2 => 
        (if x2 ≤ (1 : Int) then
          Q (.inl none) ι2
        else
          bC sc 4 [br 0 0, bi 1] ι2 (bk1 (fun r3 ι3 => 
            (if r3 = (0 : Int) then
              (bm_rg (x2 + 0)) ∧
              bC sc 26 [br 4 0, br 3 72, bi (x2 + 0)] ι3 (bk0 (fun ι9 => 
                bC sc 84 [br 8 0, br 46 ns0, bi (min r1 768), bi 0] ι9 (bk0 (fun ι10 => 
                  bC sc 4 [br 0 0, bi 1] ι10 (bk1 (fun r11 ι11 => 
                    (if r11 = (1 : Int) then
                      bC sc 85 [br 8 0, br 46 ns0, bi (min r1 768)] ι11 (bk0 (fun ι12 => 
                        Q (.inl none) ι12) (bq Q))
                    else
                      Q (.inl none) ι11)) (bq Q))) (bq Q))) (bq Q))
            else
              bC sc 4 [br 0 0, bi 4] ι3 (bk1 (fun r4 ι4 => 
                (bm_rg (r4 + 1)) ∧
                (bm_rg (x2 + (r4 + 1))) ∧
                bC sc 26 [br 4 0, br 3 72, bi (x2 + (r4 + 1))] ι4 (bk0 (fun ι5 => 
                  bC sc 84 [br 8 0, br 46 ns0, bi (min r1 768), bi (r4 + 1)] ι5 (bk0 (fun ι6 => 
                    bC sc 4 [br 0 0, bi 1] ι6 (bk1 (fun r7 ι7 => 
                      (if r7 = (1 : Int) then
                        bC sc 85 [br 8 0, br 46 ns0, bi (min r1 768)] ι7 (bk0 (fun ι8 => 
                          Q (.inl none) ι8) (bq Q))
                      else
                        Q (.inl none) ι7)) (bq Q))) (bq Q))) (bq Q))) (bq Q)))) (bq Q)))) (bq Q))) (bq Q))) :
  bW sc 83 42 [br 8 0, bi x1, bi x2, v3, v4, v5] [br 46 ns0] ι Q := bm_snd 83 [42] 51 h
set_option maxRecDepth 100000 in
theorem e_O_readTrees_47_0 {sc : bm_Sc} {Q : bm_O → bm_S → Prop} {x1 : Int} {ι : bm_S}
  (h : bC sc 80 [br 8 0] ι (bk1 (fun r1 ι1 => 
      bC sc 2 [br 0 0] ι1 (bk1 (fun r2 ι2 => 
        (if r2 = (0 : Int) then
          Q (.inl none) ι2
        else
          (bm_rg (5 + x1)) ∧
          bC sc 78 [br 8 0, bi (5 + x1), bi r1] ι2 (bk0 (fun ι3 => 
            ((0 : Int) = 0) ∧
            (0 ≤ x1 ∧ x1 < (2 : Int)) ∧
            ((0 : Int) = 0) ∧
            bC sc 63 [br 7 (ι3 8 0 6), bi x1] (up ι3 44 (ι3 8 0 6) x1 r1) (bk2 (fun t4 r4 ι4 => 
              bW sc 83 42 [br 8 0, bi x1, bi r1, bu, bu, bu] [br t4 r4] ι4 Q) (bq Q))) (bq Q)))) (bq Q))) (bq Q))) :
  bC sc 83 [br 8 0, bi x1] ι Q := bm_snd 83 [42] 24 h
set_option maxRecDepth 100000 in
theorem e_O_readTrees_47_42 {sc : bm_Sc} {Q : bm_O → bm_S → Prop} {x1 : Int} {x2 : Int} {v3 : bm_V} {v4 : bm_V} {v5 : bm_V} {ns0 : Int} {ι : bm_S}
  (h : ((0 : Int) = 0) ∧
    bC sc 64 [br 7 (ι 8 0 6), bi x1] ι (bk1 (fun r1 ι1 => 
      bC sc 260 [br 47 ns0, bi 0] ι1 (bk0 (fun ι2 => 
        (if x2 ≤ (1 : Int) then
          Q (.inl none) ι2
        else
          bC sc 4 [br 0 0, bi 1] ι2 (bk1 (fun r3 ι3 => 
            (if r3 = (0 : Int) then
              (bm_rg (x2 + 0)) ∧
              bC sc 26 [br 4 0, br 3 72, bi (x2 + 0)] ι3 (bk0 (fun ι9 => 
                bC sc 84 [br 8 0, br 47 ns0, bi (min r1 48), bi 0] ι9 (bk0 (fun ι10 => 
                  bC sc 4 [br 0 0, bi 1] ι10 (bk1 (fun r11 ι11 => 
                    (if r11 = (1 : Int) then
                      bC sc 85 [br 8 0, br 47 ns0, bi (min r1 48)] ι11 (bk0 (fun ι12 => 
                        Q (.inl none) ι12) (bq Q))
                    else
                      Q (.inl none) ι11)) (bq Q))) (bq Q))) (bq Q))
            else
              bC sc 4 [br 0 0, bi 4] ι3 (bk1 (fun r4 ι4 => 
                (bm_rg (r4 + 1)) ∧
                (bm_rg (x2 + (r4 + 1))) ∧
                bC sc 26 [br 4 0, br 3 72, bi (x2 + (r4 + 1))] ι4 (bk0 (fun ι5 => 
                  bC sc 84 [br 8 0, br 47 ns0, bi (min r1 48), bi (r4 + 1)] ι5 (bk0 (fun ι6 => 
                    bC sc 4 [br 0 0, bi 1] ι6 (bk1 (fun r7 ι7 => 
                      (if r7 = (1 : Int) then
                        bC sc 85 [br 8 0, br 47 ns0, bi (min r1 48)] ι7 (bk0 (fun ι8 => 
                          Q (.inl none) ι8) (bq Q))
                      else
                        Q (.inl none) ι7)) (bq Q))) (bq Q))) (bq Q))) (bq Q)))) (bq Q)))) (bq Q))) (bq Q))) :
  bW sc 83 42 [br 8 0, bi x1, bi x2, v3, v4, v5] [br 47 ns0] ι Q := bm_snd 83 [42] 51 h
-- O_fillMap
set_option maxRecDepth 100000 in
theorem e_O_fillMap_46_0 {sc : bm_Sc} {Q : bm_O → bm_S → Prop} {n1 : Int} {x2 : Int} {x3 : Int} {ι : bm_S}
  (h : bW sc 84 6 [br 8 0, br 46 n1, bi x2, bi x3, bi 0, bi 0, bu] [] ι Q) :
  bC sc 84 [br 8 0, br 46 n1, bi x2, bi x3] ι Q := bm_snd 84 [6] 5 h
set_option maxRecDepth 100000 in
theorem e_O_fillMap_46_6 {sc : bm_Sc} {Q : bm_O → bm_S → Prop} {n1 : Int} {x2 : Int} {x3 : Int} {x4 : Int} {x5 : Int} {v6 : bm_V} {ι : bm_S}
  (h : (if x2 ≤ x5 then
      Q (.inl none) ι
    else
      (if x2 ≤ x4 then
        Q (.inl none) ι
      else
        bC sc 2 [br 0 0] ι (bk1 (fun r1 ι1 => 
          (if r1 = (0 : Int) then
            Q (.inl none) ι1
          else
            bC sc 5 [br 0 0, br 3 72] ι1 (bk1 (fun r2 ι2 => 
              (if r2 = (0 : Int) then
                (bm_rg (x4 + 1)) ∧
                (bm_rg (r2 - x3)) ∧
                (0 ≤ x4 ∧ x4 < (768 : Int)) ∧
                (bm_rg (x5 + 1)) ∧
                bW sc 84 6 [br 8 0, br 46 n1, bi x2, bi x3, bi (x4 + 1), bi (x5 + 1), bi r2] [] (up ι2 46 n1 x4 (max (r2 - x3) 0)) Q
              else
                (if r2 ≤ x3 then
                  ((0 ≤ r2 ∧ r2 < 32) ∧ bm_rg (1 * bm_p2 r2)) ∧
                  bC sc 4 [br 0 0, bi r2] ι2 (bk1 (fun r3 ι3 => 
                    (bm_rg (1 * bm_p2 r2 + r3)) ∧
                    (bm_rg (x4 + (1 * bm_p2 r2 + r3))) ∧
                    (if x4 + (1 * bm_p2 r2 + r3) ≤ x2 then
                      (bm_rg (x5 + 1)) ∧
                      bW sc 84 6 [br 8 0, br 46 n1, bi x2, bi x3, bi (x4 + (1 * bm_p2 r2 + r3)), bi (x5 + 1), bi r2] [] ι3 Q
                    else
                      bC sc 3 [br 0 0, bi 15] ι3 (bk0 (fun ι4 => 
                        (bm_rg (x5 + 1)) ∧
                        bW sc 84 6 [br 8 0, br 46 n1, bi x2, bi x3, bi (x4 + (1 * bm_p2 r2 + r3)), bi (x5 + 1), bi r2] [] ι4 Q) (bq Q)))) (bq Q))
                else
                  (bm_rg (x4 + 1)) ∧
                  (bm_rg (r2 - x3)) ∧
                  (0 ≤ x4 ∧ x4 < (768 : Int)) ∧
                  (bm_rg (x5 + 1)) ∧
                  bW sc 84 6 [br 8 0, br 46 n1, bi x2, bi x3, bi (x4 + 1), bi (x5 + 1), bi r2] [] (up ι2 46 n1 x4 (max (r2 - x3) 0)) Q))) (bq Q)))) (bq Q))))) :
  bW sc 84 6 [br 8 0, br 46 n1, bi x2, bi x3, bi x4, bi x5, v6] [] ι Q := bm_snd 84 [6] 42 h
set_option maxRecDepth 100000 in
theorem e_O_fillMap_47_0 {sc : bm_Sc} {Q : bm_O → bm_S → Prop} {n1 : Int} {x2 : Int} {x3 : Int} {ι : bm_S}
  (h : bW sc 84 6 [br 8 0, br 47 n1, bi x2, bi x3, bi 0, bi 0, bu] [] ι Q) :
  bC sc 84 [br 8 0, br 47 n1, bi x2, bi x3] ι Q := bm_snd 84 [6] 5 h
set_option maxRecDepth 100000 in
theorem e_O_fillMap_47_6 {sc : bm_Sc} {Q : bm_O → bm_S → Prop} {n1 : Int} {x2 : Int} {x3 : Int} {x4 : Int} {x5 : Int} {v6 : bm_V} {ι : bm_S}
  (h : (if x2 ≤ x5 then
      Q (.inl none) ι
    else
      (if x2 ≤ x4 then
        Q (.inl none) ι
      else
        bC sc 2 [br 0 0] ι (bk1 (fun r1 ι1 => 
          (if r1 = (0 : Int) then
            Q (.inl none) ι1
          else
            bC sc 5 [br 0 0, br 3 72] ι1 (bk1 (fun r2 ι2 => 
              (if r2 = (0 : Int) then
                (bm_rg (x4 + 1)) ∧
                (bm_rg (r2 - x3)) ∧
                (0 ≤ x4 ∧ x4 < (48 : Int)) ∧
                (bm_rg (x5 + 1)) ∧
                bW sc 84 6 [br 8 0, br 47 n1, bi x2, bi x3, bi (x4 + 1), bi (x5 + 1), bi r2] [] (up ι2 47 n1 x4 (max (r2 - x3) 0)) Q
              else
                (if r2 ≤ x3 then
                  ((0 ≤ r2 ∧ r2 < 32) ∧ bm_rg (1 * bm_p2 r2)) ∧
                  bC sc 4 [br 0 0, bi r2] ι2 (bk1 (fun r3 ι3 => 
                    (bm_rg (1 * bm_p2 r2 + r3)) ∧
                    (bm_rg (x4 + (1 * bm_p2 r2 + r3))) ∧
                    (if x4 + (1 * bm_p2 r2 + r3) ≤ x2 then
                      (bm_rg (x5 + 1)) ∧
                      bW sc 84 6 [br 8 0, br 47 n1, bi x2, bi x3, bi (x4 + (1 * bm_p2 r2 + r3)), bi (x5 + 1), bi r2] [] ι3 Q
                    else
                      bC sc 3 [br 0 0, bi 15] ι3 (bk0 (fun ι4 => 
                        (bm_rg (x5 + 1)) ∧
                        bW sc 84 6 [br 8 0, br 47 n1, bi x2, bi x3, bi (x4 + (1 * bm_p2 r2 + r3)), bi (x5 + 1), bi r2] [] ι4 Q) (bq Q)))) (bq Q))
                else
                  (bm_rg (x4 + 1)) ∧
                  (bm_rg (r2 - x3)) ∧
                  (0 ≤ x4 ∧ x4 < (48 : Int)) ∧
                  (bm_rg (x5 + 1)) ∧
                  bW sc 84 6 [br 8 0, br 47 n1, bi x2, bi x3, bi (x4 + 1), bi (x5 + 1), bi r2] [] (up ι2 47 n1 x4 (max (r2 - x3) 0)) Q))) (bq Q)))) (bq Q))))) :
  bW sc 84 6 [br 8 0, br 47 n1, bi x2, bi x3, bi x4, bi x5, v6] [] ι Q := bm_snd 84 [6] 42 h
-- O_undoFront
set_option maxRecDepth 100000 in
theorem e_O_undoFront_46_0 {sc : bm_Sc} {Q : bm_O → bm_S → Prop} {n1 : Int} {x2 : Int} {ι : bm_S}
  (h : bW sc 85 2 [br 8 0, br 46 n1, bi x2, bi 0, bu, bu, bu] [] ι Q) :
  bC sc 85 [br 8 0, br 46 n1, bi x2] ι Q := bm_snd 85 [2, 23, 51] 3 h
set_option maxRecDepth 100000 in
theorem e_O_undoFront_46_2 {sc : bm_Sc} {Q : bm_O → bm_S → Prop} {n1 : Int} {x2 : Int} {x3 : Int} {v4 : bm_V} {v5 : bm_V} {v6 : bm_V} {ι : bm_S}
  (h : (if (12 : Int) ≤ x3 then
      bW sc 85 23 [br 8 0, br 46 n1, bi x2, bi 0, v4, v5, v6] [] ι Q
    else
      (0 ≤ x3 ∧ x3 < (12 : Int)) ∧
      (bm_rg (x3 + 1)) ∧
      bW sc 85 2 [br 8 0, br 46 n1, bi x2, bi (x3 + 1), v4, v5, v6] [] (up ι 53 0 x3 x3) Q)) :
  bW sc 85 2 [br 8 0, br 46 n1, bi x2, bi x3, v4, v5, v6] [] ι Q := bm_snd 85 [2, 23, 51] 11 h
set_option maxRecDepth 100000 in
theorem e_O_undoFront_46_23 {sc : bm_Sc} {Q : bm_O → bm_S → Prop} {n1 : Int} {x2 : Int} {x3 : Int} {v4 : bm_V} {v5 : bm_V} {v6 : bm_V} {ι : bm_S}
  (h : (if x2 ≤ x3 then
      Q (.inl none) ι
    else
      (0 ≤ x3 ∧ x3 < (768 : Int)) ∧
      (0 ≤ min (ι 46 n1 x3) 11 ∧ min (ι 46 n1 x3) 11 < (12 : Int)) ∧
      bW sc 85 51 [br 8 0, br 46 n1, bi x2, bi x3, bi (min (ι 46 n1 x3) 11), bi (ι 53 0 (min (ι 46 n1 x3) 11)), bi (min (ι 46 n1 x3) 11)] [] ι Q)) :
  bW sc 85 23 [br 8 0, br 46 n1, bi x2, bi x3, v4, v5, v6] [] ι Q := bm_snd 85 [2, 23, 51] 17 h
set_option maxRecDepth 100000 in
theorem e_O_undoFront_46_51 {sc : bm_Sc} {Q : bm_O → bm_S → Prop} {n1 : Int} {x2 : Int} {x3 : Int} {v4 : bm_V} {x5 : Int} {x6 : Int} {ι : bm_S}
  (h : (if x6 ≤ (0 : Int) then
      (0 ≤ (0 : Int) ∧ (0 : Int) < (12 : Int)) ∧
      (0 ≤ x3 ∧ x3 < (768 : Int)) ∧
      (bm_rg (x3 + 1)) ∧
      bW sc 85 23 [br 8 0, br 46 n1, bi x2, bi (x3 + 1), v4, bi x5, bi x6] [] (up (up ι 53 0 0 x5) 46 n1 x3 x5) Q
    else
      (bm_rg (x6 - 1)) ∧
      (0 ≤ x6 - 1 ∧ x6 - 1 < (12 : Int)) ∧
      (0 ≤ x6 ∧ x6 < (12 : Int)) ∧
      (bm_rg (x6 + (-1))) ∧
      bW sc 85 51 [br 8 0, br 46 n1, bi x2, bi x3, v4, bi x5, bi (x6 + (-1))] [] (up ι 53 0 x6 (ι 53 0 (x6 - 1))) Q)) :
  bW sc 85 51 [br 8 0, br 46 n1, bi x2, bi x3, v4, bi x5, bi x6] [] ι Q := bm_snd 85 [2, 23, 51] 15 h
set_option maxRecDepth 100000 in
theorem e_O_undoFront_47_0 {sc : bm_Sc} {Q : bm_O → bm_S → Prop} {n1 : Int} {x2 : Int} {ι : bm_S}
  (h : bW sc 85 2 [br 8 0, br 47 n1, bi x2, bi 0, bu, bu, bu] [] ι Q) :
  bC sc 85 [br 8 0, br 47 n1, bi x2] ι Q := bm_snd 85 [2, 23, 51] 3 h
set_option maxRecDepth 100000 in
theorem e_O_undoFront_47_2 {sc : bm_Sc} {Q : bm_O → bm_S → Prop} {n1 : Int} {x2 : Int} {x3 : Int} {v4 : bm_V} {v5 : bm_V} {v6 : bm_V} {ι : bm_S}
  (h : (if (12 : Int) ≤ x3 then
      bW sc 85 23 [br 8 0, br 47 n1, bi x2, bi 0, v4, v5, v6] [] ι Q
    else
      (0 ≤ x3 ∧ x3 < (12 : Int)) ∧
      (bm_rg (x3 + 1)) ∧
      bW sc 85 2 [br 8 0, br 47 n1, bi x2, bi (x3 + 1), v4, v5, v6] [] (up ι 53 0 x3 x3) Q)) :
  bW sc 85 2 [br 8 0, br 47 n1, bi x2, bi x3, v4, v5, v6] [] ι Q := bm_snd 85 [2, 23, 51] 11 h
set_option maxRecDepth 100000 in
theorem e_O_undoFront_47_23 {sc : bm_Sc} {Q : bm_O → bm_S → Prop} {n1 : Int} {x2 : Int} {x3 : Int} {v4 : bm_V} {v5 : bm_V} {v6 : bm_V} {ι : bm_S}
  (h : (if x2 ≤ x3 then
      Q (.inl none) ι
    else
      (0 ≤ x3 ∧ x3 < (48 : Int)) ∧
      (0 ≤ min (ι 47 n1 x3) 11 ∧ min (ι 47 n1 x3) 11 < (12 : Int)) ∧
      bW sc 85 51 [br 8 0, br 47 n1, bi x2, bi x3, bi (min (ι 47 n1 x3) 11), bi (ι 53 0 (min (ι 47 n1 x3) 11)), bi (min (ι 47 n1 x3) 11)] [] ι Q)) :
  bW sc 85 23 [br 8 0, br 47 n1, bi x2, bi x3, v4, v5, v6] [] ι Q := bm_snd 85 [2, 23, 51] 17 h
set_option maxRecDepth 100000 in
theorem e_O_undoFront_47_51 {sc : bm_Sc} {Q : bm_O → bm_S → Prop} {n1 : Int} {x2 : Int} {x3 : Int} {v4 : bm_V} {x5 : Int} {x6 : Int} {ι : bm_S}
  (h : (if x6 ≤ (0 : Int) then
      (0 ≤ (0 : Int) ∧ (0 : Int) < (12 : Int)) ∧
      (0 ≤ x3 ∧ x3 < (48 : Int)) ∧
      (bm_rg (x3 + 1)) ∧
      bW sc 85 23 [br 8 0, br 47 n1, bi x2, bi (x3 + 1), v4, bi x5, bi x6] [] (up (up ι 53 0 0 x5) 47 n1 x3 x5) Q
    else
      (bm_rg (x6 - 1)) ∧
      (0 ≤ x6 - 1 ∧ x6 - 1 < (12 : Int)) ∧
      (0 ≤ x6 ∧ x6 < (12 : Int)) ∧
      (bm_rg (x6 + (-1))) ∧
      bW sc 85 51 [br 8 0, br 47 n1, bi x2, bi x3, v4, bi x5, bi (x6 + (-1))] [] (up ι 53 0 x6 (ι 53 0 (x6 - 1))) Q)) :
  bW sc 85 51 [br 8 0, br 47 n1, bi x2, bi x3, v4, bi x5, bi x6] [] ι Q := bm_snd 85 [2, 23, 51] 15 h
-- O_readCodes
set_option maxRecDepth 100000 in
theorem e_O_readCodes_0 {sc : bm_Sc} {Q : bm_O → bm_S → Prop}  {ι : bm_S}
  (h : bW sc 86 2 [br 8 0, bi 0, bu, bu] [] ι Q) :
  bC sc 86 [br 8 0] ι Q := bm_snd 86 [2, 23] 3 h
set_option maxRecDepth 100000 in
theorem e_O_readCodes_2 {sc : bm_Sc} {Q : bm_O → bm_S → Prop} {x1 : Int} {v2 : bm_V} {v3 : bm_V} {ι : bm_S}
  (h : (if (3 : Int) ≤ x1 then
      bC sc 2 [br 0 0] ι (bk1 (fun r1 ι1 => 
        (if r1 = (0 : Int) then
          Q (.inl none) ι1
        else
          ((0 : Int) = 0) ∧
          ((0 : Int) = 0) ∧
          ((0 : Int) = 0 ∧ 7 = 7 ∧ ι1 8 0 6 < 2) ∧
          ((0 : Int) = 0 ∧ 7 = 7 ∧ ι1 8 0 4 < 2) ∧
          ((1 : Int) = 0 ∨ (1 : Int) = 1) ∧
          Q (.inl none) (up (up (up ι1 8 0 4 (ι1 8 0 6)) 8 0 6 (ι1 8 0 4)) 8 0 5 1))) (bq Q))
    else
      ((0 : Int) = 0) ∧
      bC sc 65 [br 7 (ι 8 0 6), bi x1] ι (bk1 (fun r2 ι2 => 
        bW sc 86 23 [br 8 0, bi x1, bi (min r2 12), bi 0] [] ι2 Q) (bq Q)))) :
  bW sc 86 2 [br 8 0, bi x1, v2, v3] [] ι Q := bm_snd 86 [2, 23] 21 h
set_option maxRecDepth 100000 in
theorem e_O_readCodes_23 {sc : bm_Sc} {Q : bm_O → bm_S → Prop} {x1 : Int} {x2 : Int} {x3 : Int} {ι : bm_S}
  (h : (if x2 ≤ x3 then
      (bm_rg (x1 + 1)) ∧
      bW sc 86 2 [br 8 0, bi (x1 + 1), bi x2, bi x3] [] ι Q
    else
      bC sc 2 [br 0 0] ι (bk1 (fun r1 ι1 => 
        (if r1 = (0 : Int) then
          (bm_rg (x1 + 1)) ∧
          bW sc 86 2 [br 8 0, bi (x1 + 1), bi x2, bi x3] [] ι1 Q
        else
          ((0 : Int) = 0) ∧
          bC sc 67 [br 7 (ι1 8 0 6), bi x1, bi x3] ι1 (bk3 (fun r2 ι2 => 
            ((0 : Int) = 0) ∧
            bC sc 66 [br 7 (ι2 8 0 6), bi x1] ι2 (bk1 (fun r3 ι3 => 
              bC sc 26 [br 4 0, br 3 r2, bi r3] ι3 (bk0 (fun ι4 => 
                (bm_rg (x3 + 1)) ∧
                bW sc 86 23 [br 8 0, bi x1, bi x2, bi (x3 + 1)] [] ι4 Q) (bq Q))) (bq Q))) (bq Q)))) (bq Q)))) :
  bW sc 86 23 [br 8 0, bi x1, bi x2, bi x3] [] ι Q := bm_snd 86 [2, 23] 22 h
-- O_makeCommand
set_option maxRecDepth 100000 in
theorem e_O_makeCommand_0 {sc : bm_Sc} {Q : bm_O → bm_S → Prop}  {ι : bm_S}
  (h : (0 ≤ (1 : Int) ∧ (1 : Int) < 3) ∧
    bC sc 12 [br 1 1, br 0 0] ι (bk0 (fun ι1 => 
      ((0 : Int) = 0) ∧
      (0 ≤ (1 : Int) ∧ (1 : Int) < 3) ∧
      bC sc 67 [br 7 (ι1 8 0 4), bi 1, bi (ι1 1 1 3)] ι1 (bk3 (fun r2 ι2 => 
        bC sc 5 [br 0 0, br 3 r2] ι2 (bk1 (fun r3 ι3 => 
          (0 ≤ r3 ∧ 0 < (64 : Int)) ∧
          (0 ≤ min (r3 / 64) 10 ∧ min (r3 / 64) 10 < (11 : Int)) ∧
          (bm_rg (8 * bm_X sc 202 (min (r3 / 64) 10))) ∧
          (0 ≤ r3 ∧ 0 < (8 : Int)) ∧
          (0 ≤ r3 / 8 ∧ 0 < (8 : Int)) ∧
          (bm_rg (8 * bm_X sc 202 (min (r3 / 64) 10) + r3 / 8 % 8)) ∧
          (0 ≤ min (r3 / 64) 10 ∧ min (r3 / 64) 10 < (11 : Int)) ∧
          (bm_rg (8 * bm_X sc 203 (min (r3 / 64) 10))) ∧
          (0 ≤ r3 ∧ 0 < (8 : Int)) ∧
          (bm_rg (8 * bm_X sc 203 (min (r3 / 64) 10) + r3 % 8)) ∧
          (0 ≤ 8 * bm_X sc 202 (min (r3 / 64) 10) + r3 / 8 % 8 ∧ 8 * bm_X sc 202 (min (r3 / 64) 10) + r3 / 8 % 8 < (24 : Int)) ∧
          (0 ≤ 8 * bm_X sc 202 (min (r3 / 64) 10) + r3 / 8 % 8 ∧ 8 * bm_X sc 202 (min (r3 / 64) 10) + r3 / 8 % 8 < (24 : Int)) ∧
          bC sc 4 [br 0 0, bi (bm_X sc 207 (8 * bm_X sc 202 (min (r3 / 64) 10) + r3 / 8 % 8))] ι3 (bk1 (fun r4 ι4 => 
            (bm_rg (bm_X sc 200 (8 * bm_X sc 202 (min (r3 / 64) 10) + r3 / 8 % 8) + r4)) ∧
            (0 ≤ 8 * bm_X sc 203 (min (r3 / 64) 10) + r3 % 8 ∧ 8 * bm_X sc 203 (min (r3 / 64) 10) + r3 % 8 < (24 : Int)) ∧
            (0 ≤ 8 * bm_X sc 203 (min (r3 / 64) 10) + r3 % 8 ∧ 8 * bm_X sc 203 (min (r3 / 64) 10) + r3 % 8 < (24 : Int)) ∧
            bC sc 4 [br 0 0, bi (bm_X sc 208 (8 * bm_X sc 203 (min (r3 / 64) 10) + r3 % 8))] ι4 (bk1 (fun r5 ι5 => 
              (bm_rg (bm_X sc 201 (8 * bm_X sc 203 (min (r3 / 64) 10) + r3 % 8) + r5)) ∧
              bC sc 2 [br 0 0] ι5 (bk1 (fun r6 ι6 => 
                (if r6 = (0 : Int) then
                  Q (.inl none) ι6
                else
                  bC sc 79 [br 8 0, bi 9] ι6 (bk0 (fun ι7 => 
                    (bm_rg (ι7 8 0 14 - ι7 2 1 1)) ∧
                    (if bm_X sc 200 (8 * bm_X sc 202 (min (r3 / 64) 10) + r3 / 8 % 8) + r4 ≤ ι7 8 0 14 - ι7 2 1 1 then
                      bW sc 87 169 [br 8 0, bi r3, bi (min (r3 / 64) 10), bi (8 * bm_X sc 202 (min (r3 / 64) 10) + r3 / 8 % 8), bi (8 * bm_X sc 203 (min (r3 / 64) 10) + r3 % 8), bi (bm_X sc 200 (8 * bm_X sc 202 (min (r3 / 64) 10) + r3 / 8 % 8) + r4), bi (bm_X sc 201 (8 * bm_X sc 203 (min (r3 / 64) 10) + r3 % 8) + r5), bi 0, bu, bu] [] ι7 Q
                    else
                      bC sc 3 [br 0 0, bi 8] ι7 (bk0 (fun ι8 => 
                        Q (.inl none) ι8) (bq Q)))) (bq Q)))) (bq Q))) (bq Q))) (bq Q))) (bq Q))) (bq Q))) (bq Q))) :
  bC sc 87 [br 8 0] ι Q := bm_snd 87 [169, 196] 90 h
set_option maxRecDepth 100000 in
theorem e_O_makeCommand_169 {sc : bm_Sc} {Q : bm_O → bm_S → Prop} {v1 : bm_V} {x2 : Int} {v3 : bm_V} {v4 : bm_V} {x5 : Int} {x6 : Int} {x7 : Int} {v8 : bm_V} {v9 : bm_V} {ι : bm_S}
  (h : (if x5 ≤ x7 then
      bW sc 87 196 [br 8 0, v1, bi x2, v3, v4, bi x5, bi x6, bi x7, v8, v9] [] ι Q
    else
      bC sc 2 [br 0 0] ι (bk1 (fun r1 ι1 => 
        (if r1 = (0 : Int) then
          bW sc 87 196 [br 8 0, v1, bi x2, v3, v4, bi x5, bi x6, bi x7, v8, v9] [] ι1 Q
        else
          bC sc 88 [br 8 0] ι1 (bk0 (fun ι2 => 
            (bm_rg (x7 + 1)) ∧
            bW sc 87 169 [br 8 0, v1, bi x2, v3, v4, bi x5, bi x6, bi (x7 + 1), v8, v9] [] ι2 Q) (bq Q)))) (bq Q)))) :
  bW sc 87 169 [br 8 0, v1, bi x2, v3, v4, bi x5, bi x6, bi x7, v8, v9] [] ι Q := bm_snd 87 [169, 196] 12 h
set_option maxRecDepth 100000 in
theorem e_O_makeCommand_196 {sc : bm_Sc} {Q : bm_O → bm_S → Prop} {v1 : bm_V} {x2 : Int} {v3 : bm_V} {v4 : bm_V} {v5 : bm_V} {x6 : Int} {v7 : bm_V} {v8 : bm_V} {v9 : bm_V} {ι : bm_S}
  (h : (if ι 8 0 14 ≤ ι 2 1 1 then
      Q (.inl none) ι
    else
      bC sc 2 [br 0 0] ι (bk1 (fun r1 ι1 => 
        (if r1 = (0 : Int) then
          Q (.inl none) ι1
        else
          (if (2 : Int) ≤ x2 then
            bC sc 89 [br 8 0, bi x6] ι1 (bk1 (fun r2 ι2 => 
              bC sc 90 [br 8 0, bi r2] ι2 (bk1 (fun r3 ι3 => 
                (if (0 : Int) < r3 then
                  (if min (ι3 8 0 13) (ι3 2 1 1) < r3 then
                    (bm_rg (r3 - min (ι3 8 0 13) (ι3 2 1 1))) ∧
                    (bm_rg (r3 - min (ι3 8 0 13) (ι3 2 1 1) - 1)) ∧
                    bC sc 92 [br 8 0, bi x6, bi (r3 - min (ι3 8 0 13) (ι3 2 1 1) - 1)] ι3 (bk0 (fun ι4 => 
                      Q (.inl none) ι4) (bq Q))
                  else
                    bC sc 91 [br 8 0, bi x6, bi r3, bi r2] ι3 (bk0 (fun ι5 => 
                      Q (.inl none) ι5) (bq Q)))
                else
                  bC sc 3 [br 0 0, bi 9] ι3 (bk0 (fun ι6 => 
                    Q (.inl none) ι6) (bq Q)))) (bq Q))) (bq Q))
          else
            bC sc 90 [br 8 0, bi 0] ι1 (bk1 (fun r7 ι7 => 
              (if (0 : Int) < r7 then
                (if min (ι7 8 0 13) (ι7 2 1 1) < r7 then
                  (bm_rg (r7 - min (ι7 8 0 13) (ι7 2 1 1))) ∧
                  (bm_rg (r7 - min (ι7 8 0 13) (ι7 2 1 1) - 1)) ∧
                  bC sc 92 [br 8 0, bi x6, bi (r7 - min (ι7 8 0 13) (ι7 2 1 1) - 1)] ι7 (bk0 (fun ι8 => 
                    Q (.inl none) ι8) (bq Q))
                else
                  bC sc 91 [br 8 0, bi x6, bi r7, bi 0] ι7 (bk0 (fun ι9 => 
                    Q (.inl none) ι9) (bq Q)))
              else
                bC sc 3 [br 0 0, bi 9] ι7 (bk0 (fun ι10 => 
                  Q (.inl none) ι10) (bq Q)))) (bq Q))))) (bq Q)))) :
  bW sc 87 196 [br 8 0, v1, bi x2, v3, v4, v5, bi x6, v7, v8, v9] [] ι Q := bm_snd 87 [169, 196] 42 h
-- O_makeLiteral
set_option maxRecDepth 100000 in
theorem e_O_makeLiteral_0 {sc : bm_Sc} {Q : bm_O → bm_S → Prop}  {ι : bm_S}
  (h : (0 ≤ (0 : Int) ∧ (0 : Int) < 3) ∧
    bC sc 12 [br 1 0, br 0 0] ι (bk0 (fun ι1 => 
      ((0 : Int) = 0) ∧
      (0 ≤ ι1 1 0 3 ∧ ι1 1 0 3 < (12 : Int)) ∧
      (bm_rg (ι1 2 1 1 - 1)) ∧
      bC sc 15 [br 2 1, bi (ι1 2 1 1 - 1)] ι1 (bk1 (fun r2 ι2 => 
        (bm_rg (ι2 2 1 1 - 2)) ∧
        bC sc 15 [br 2 1, bi (ι2 2 1 1 - 2)] ι2 (bk1 (fun r3 ι3 => 
          bC sc 144 [bi (ι1 45 (ι1 8 0 4) (ι1 1 0 3)), bi r2, bi r3] ι3 (bk1 (fun r4 ι4 => 
            ((0 : Int) = 0) ∧
            (bm_rg (64 * ι4 1 0 3)) ∧
            (bm_rg (64 * ι4 1 0 3 + r4)) ∧
            (0 ≤ 64 * ι4 1 0 3 + r4 ∧ 64 * ι4 1 0 3 + r4 < (768 : Int)) ∧
            ((0 : Int) = 0) ∧
            bC sc 67 [br 7 (ι4 8 0 4), bi 0, bi (ι4 46 (ι4 8 0 4) (64 * ι4 1 0 3 + r4))] ι4 (bk3 (fun r5 ι5 => 
              bC sc 5 [br 0 0, br 3 r5] ι5 (bk1 (fun r6 ι6 => 
                bC sc 2 [br 0 0] ι6 (bk1 (fun r7 ι7 => 
                  (if r7 = (0 : Int) then
                    Q (.inl none) ι7
                  else
                    bC sc 17 [br 2 1, bi r6] ι7 (bk0 (fun ι8 => 
                      Q (.inl none) ι8) (bq Q)))) (bq Q))) (bq Q))) (bq Q))) (bq Q))) (bq Q))) (bq Q))) (bq Q))) :
  bC sc 88 [br 8 0] ι Q := bm_snd 88 [] 62 h
-- O_readDistanceSign
set_option maxRecDepth 100000 in
theorem e_O_readDistanceSign_0 {sc : bm_Sc} {Q : bm_O → bm_S → Prop} {x1 : Int} {ι : bm_S}
  (h : (0 ≤ (2 : Int) ∧ (2 : Int) < 3) ∧
    bC sc 12 [br 1 2, br 0 0] ι (bk0 (fun ι1 => 
      ((0 : Int) = 0) ∧
      (bm_rg (4 * ι1 1 2 3)) ∧
      (bm_rg (x1 - 2)) ∧
      (bm_rg (4 * ι1 1 2 3 + min (x1 - 2) 3)) ∧
      (0 ≤ 4 * ι1 1 2 3 + min (x1 - 2) 3 ∧ 4 * ι1 1 2 3 + min (x1 - 2) 3 < (48 : Int)) ∧
      ((0 : Int) = 0) ∧
      bC sc 67 [br 7 (ι1 8 0 4), bi 2, bi (ι1 47 (ι1 8 0 4) (4 * ι1 1 2 3 + min (x1 - 2) 3))] ι1 (bk3 (fun r2 ι2 => 
        bC sc 5 [br 0 0, br 3 r2] ι2 (bk1 (fun r3 ι3 => 
          Q (.inl (some (bi r3))) ι3) (bq Q))) (bq Q))) (bq Q))) :
  bC sc 89 [br 8 0, bi x1] ι Q := bm_snd 89 [] 33 h
-- O_readDistance
set_option maxRecDepth 100000 in
theorem e_O_readDistance_0 {sc : bm_Sc} {Q : bm_O → bm_S → Prop} {x1 : Int} {ι : bm_S}
  (h : (if (4 : Int) ≤ x1 then
      (if (16 : Int) ≤ x1 then
        ((0 : Int) = 0) ∧
        (bm_rg (16 + ι 7 (ι 8 0 4) 9)) ∧
        (if 16 + ι 7 (ι 8 0 4) 9 ≤ x1 then
          ((0 : Int) = 0) ∧
          (bm_rg (x1 - ι 7 (ι 8 0 4) 9)) ∧
          (bm_rg (x1 - ι 7 (ι 8 0 4) 9 - 16)) ∧
          ((0 : Int) = 0) ∧
          (bm_rg (ι 7 (ι 8 0 4) 8 + 1)) ∧
          (0 ≤ ι 7 (ι 8 0 4) 8 + 1 ∧ ι 7 (ι 8 0 4) 8 + 1 < 32) ∧
          (bm_rg (1 + (x1 - ι 7 (ι 8 0 4) 9 - 16) / bm_p2 (ι 7 (ι 8 0 4) 8 + 1))) ∧
          (0 ≤ ι 7 (ι 8 0 4) 8 ∧ ι 7 (ι 8 0 4) 8 < 32) ∧
          (bm_rg (2 + (x1 - ι 7 (ι 8 0 4) 9 - 16) / bm_p2 (ι 7 (ι 8 0 4) 8) % 2)) ∧
          ((0 ≤ 1 + (x1 - ι 7 (ι 8 0 4) 9 - 16) / bm_p2 (ι 7 (ι 8 0 4) 8 + 1) ∧ 1 + (x1 - ι 7 (ι 8 0 4) 9 - 16) / bm_p2 (ι 7 (ι 8 0 4) 8 + 1) < 32) ∧ bm_rg ((2 + (x1 - ι 7 (ι 8 0 4) 9 - 16) / bm_p2 (ι 7 (ι 8 0 4) 8) % 2) * bm_p2 (1 + (x1 - ι 7 (ι 8 0 4) 9 - 16) / bm_p2 (ι 7 (ι 8 0 4) 8 + 1)))) ∧
          (bm_rg ((2 + (x1 - ι 7 (ι 8 0 4) 9 - 16) / bm_p2 (ι 7 (ι 8 0 4) 8) % 2) * bm_p2 (1 + (x1 - ι 7 (ι 8 0 4) 9 - 16) / bm_p2 (ι 7 (ι 8 0 4) 8 + 1)) - 4)) ∧
          bC sc 4 [br 0 0, bi (1 + (x1 - ι 7 (ι 8 0 4) 9 - 16) / bm_p2 (ι 7 (ι 8 0 4) 8 + 1))] ι (bk1 (fun r1 ι1 => 
            (bm_rg ((2 + (x1 - ι 7 (ι 8 0 4) 9 - 16) / bm_p2 (ι 7 (ι 8 0 4) 8) % 2) * bm_p2 (1 + (x1 - ι 7 (ι 8 0 4) 9 - 16) / bm_p2 (ι 7 (ι 8 0 4) 8 + 1)) - 4 + r1)) ∧
            ((0 ≤ ι 7 (ι 8 0 4) 8 ∧ ι 7 (ι 8 0 4) 8 < 32) ∧ bm_rg (((2 + (x1 - ι 7 (ι 8 0 4) 9 - 16) / bm_p2 (ι 7 (ι 8 0 4) 8) % 2) * bm_p2 (1 + (x1 - ι 7 (ι 8 0 4) 9 - 16) / bm_p2 (ι 7 (ι 8 0 4) 8 + 1)) - 4 + r1) * bm_p2 (ι 7 (ι 8 0 4) 8))) ∧
            ((0 ≤ ι 7 (ι 8 0 4) 8 ∧ ι 7 (ι 8 0 4) 8 < 32) ∧ bm_rg (1 * bm_p2 (ι 7 (ι 8 0 4) 8))) ∧
            (bm_rg (1 * bm_p2 (ι 7 (ι 8 0 4) 8) - 1)) ∧
            (bm_rg (((2 + (x1 - ι 7 (ι 8 0 4) 9 - 16) / bm_p2 (ι 7 (ι 8 0 4) 8) % 2) * bm_p2 (1 + (x1 - ι 7 (ι 8 0 4) 9 - 16) / bm_p2 (ι 7 (ι 8 0 4) 8 + 1)) - 4 + r1) * bm_p2 (ι 7 (ι 8 0 4) 8) + bm_band (x1 - ι 7 (ι 8 0 4) 9 - 16) (1 * bm_p2 (ι 7 (ι 8 0 4) 8) - 1))) ∧
            ((0 : Int) = 0) ∧
            (bm_rg (((2 + (x1 - ι 7 (ι 8 0 4) 9 - 16) / bm_p2 (ι 7 (ι 8 0 4) 8) % 2) * bm_p2 (1 + (x1 - ι 7 (ι 8 0 4) 9 - 16) / bm_p2 (ι 7 (ι 8 0 4) 8 + 1)) - 4 + r1) * bm_p2 (ι 7 (ι 8 0 4) 8) + bm_band (x1 - ι 7 (ι 8 0 4) 9 - 16) (1 * bm_p2 (ι 7 (ι 8 0 4) 8) - 1) + ι1 7 (ι1 8 0 4) 9)) ∧
            (bm_rg (((2 + (x1 - ι 7 (ι 8 0 4) 9 - 16) / bm_p2 (ι 7 (ι 8 0 4) 8) % 2) * bm_p2 (1 + (x1 - ι 7 (ι 8 0 4) 9 - 16) / bm_p2 (ι 7 (ι 8 0 4) 8 + 1)) - 4 + r1) * bm_p2 (ι 7 (ι 8 0 4) 8) + bm_band (x1 - ι 7 (ι 8 0 4) 9 - 16) (1 * bm_p2 (ι 7 (ι 8 0 4) 8) - 1) + ι1 7 (ι1 8 0 4) 9 + 1)) ∧
            Q (.inl (some (bi (((2 + (x1 - ι 7 (ι 8 0 4) 9 - 16) / bm_p2 (ι 7 (ι 8 0 4) 8) % 2) * bm_p2 (1 + (x1 - ι 7 (ι 8 0 4) 9 - 16) / bm_p2 (ι 7 (ι 8 0 4) 8 + 1)) - 4 + r1) * bm_p2 (ι 7 (ι 8 0 4) 8) + bm_band (x1 - ι 7 (ι 8 0 4) 9 - 16) (1 * bm_p2 (ι 7 (ι 8 0 4) 8) - 1) + ι1 7 (ι1 8 0 4) 9 + 1)))) ι1) (bq Q))
        else
          (bm_rg (x1 - 15)) ∧
          Q (.inl (some (bi (x1 - 15)))) ι)
      else
        (bm_rg (x1 - 4)) ∧
        (0 ≤ x1 - 4 ∧ 0 < (6 : Int)) ∧
        (0 ≤ (x1 - 4) % 6 ∧ 0 < (2 : Int)) ∧
        (bm_rg (1 + (x1 - 4) % 6 / 2)) ∧
        (if (10 : Int) ≤ x1 then
          (0 ≤ (1 : Int) ∧ (1 : Int) < (4 : Int)) ∧
          (0 ≤ (x1 - 4) % 6 ∧ 0 < (2 : Int)) ∧
          (if (x1 - 4) % 6 % 2 = (0 : Int) then
            (bm_rg ((-(1 + (x1 - 4) % 6 / 2)))) ∧
            (bm_rg (ι 51 0 1 + (-(1 + (x1 - 4) % 6 / 2)))) ∧
            Q (.inl (some (bi (ι 51 0 1 + (-(1 + (x1 - 4) % 6 / 2)))))) ι
          else
            (bm_rg (ι 51 0 1 + (1 + (x1 - 4) % 6 / 2))) ∧
            Q (.inl (some (bi (ι 51 0 1 + (1 + (x1 - 4) % 6 / 2))))) ι)
        else
          (0 ≤ (0 : Int) ∧ (0 : Int) < (4 : Int)) ∧
          (0 ≤ (x1 - 4) % 6 ∧ 0 < (2 : Int)) ∧
          (if (x1 - 4) % 6 % 2 = (0 : Int) then
            (bm_rg ((-(1 + (x1 - 4) % 6 / 2)))) ∧
            (bm_rg (ι 51 0 0 + (-(1 + (x1 - 4) % 6 / 2)))) ∧
            Q (.inl (some (bi (ι 51 0 0 + (-(1 + (x1 - 4) % 6 / 2)))))) ι
          else
            (bm_rg (ι 51 0 0 + (1 + (x1 - 4) % 6 / 2))) ∧
            Q (.inl (some (bi (ι 51 0 0 + (1 + (x1 - 4) % 6 / 2))))) ι)))
    else
      (0 ≤ x1 ∧ x1 < (4 : Int)) ∧
      Q (.inl (some (bi (ι 51 0 x1)))) ι)) :
  bC sc 90 [br 8 0, bi x1] ι Q := bm_snd 90 [] 68 h
-- O_makeCopy
set_option maxRecDepth 100000 in
theorem e_O_makeCopy_0 {sc : bm_Sc} {Q : bm_O → bm_S → Prop} {x1 : Int} {x2 : Int} {x3 : Int} {ι : bm_S}
  (h : (bm_rg (ι 8 0 14 - ι 2 1 1)) ∧
    (if x1 ≤ ι 8 0 14 - ι 2 1 1 then
      bC sc 2 [br 0 0] ι (bk1 (fun r1 ι1 => 
        (if r1 = (0 : Int) then
          Q (.inl none) ι1
        else
          bW sc 91 39 [br 8 0, bi x1, bi x2, bi x3, bi 0] [] ι1 Q)) (bq Q))
    else
      bC sc 3 [br 0 0, bi 8] ι (bk0 (fun ι2 => 
        bC sc 2 [br 0 0] ι2 (bk1 (fun r3 ι3 => 
          (if r3 = (0 : Int) then
            Q (.inl none) ι3
          else
            bW sc 91 39 [br 8 0, bi x1, bi x2, bi x3, bi 0] [] ι3 Q)) (bq Q))) (bq Q)))) :
  bC sc 91 [br 8 0, bi x1, bi x2, bi x3] ι Q := bm_snd 91 [39] 19 h
set_option maxRecDepth 100000 in
theorem e_O_makeCopy_39 {sc : bm_Sc} {Q : bm_O → bm_S → Prop} {x1 : Int} {x2 : Int} {x3 : Int} {x4 : Int} {ι : bm_S}
  (h : (if x1 ≤ x4 then
      (if x3 = (0 : Int) then
        bC sc 79 [br 8 0, bi 10] ι (bk0 (fun ι1 => 
          Q (.inl none) ι1) (bq Q))
      else
        bC sc 143 [br 51 0, bi x2] ι (bk0 (fun ι2 => 
          bC sc 79 [br 8 0, bi 10] ι2 (bk0 (fun ι3 => 
            Q (.inl none) ι3) (bq Q))) (bq Q)))
    else
      (bm_rg (ι 2 1 1 - x2)) ∧
      bC sc 15 [br 2 1, bi (ι 2 1 1 - x2)] ι (bk1 (fun r4 ι4 => 
        bC sc 17 [br 2 1, bi r4] ι4 (bk0 (fun ι5 => 
          (bm_rg (x4 + 1)) ∧
          bW sc 91 39 [br 8 0, bi x1, bi x2, bi x3, bi (x4 + 1)] [] ι5 Q) (bq Q))) (bq Q)))) :
  bW sc 91 39 [br 8 0, bi x1, bi x2, bi x3, bi x4] [] ι Q := bm_snd 91 [39] 17 h
-- O_makeWord
set_option maxRecDepth 100000 in
theorem e_O_makeWord_0 {sc : bm_Sc} {Q : bm_O → bm_S → Prop} {x1 : Int} {x2 : Int} {ι : bm_S}
  (h : bC sc 113 [br 10 0, bi x1] ι (bk1 (fun r1 ι1 => 
      ((0 ≤ r1 ∧ r1 < 32) ∧ bm_rg (1 * bm_p2 r1)) ∧
      (bm_rg (1 * bm_p2 r1 - 1)) ∧
      (0 ≤ r1 ∧ r1 < 32) ∧
      bC sc 109 [br 10 0, bi x1] ι1 (bk1 (fun r2 ι2 => 
        (if bm_band x2 (1 * bm_p2 r1 - 1) < r2 then
          (if x2 / bm_p2 r1 < (24 : Int) then
            bC sc 118 [bi x1, bi (x2 / bm_p2 r1)] ι2 (bk1 (fun r3 ι3 => 
              (bm_rg (ι3 8 0 14 - ι3 2 1 1)) ∧
              (if r3 ≤ ι3 8 0 14 - ι3 2 1 1 then
                bC sc 2 [br 0 0] ι3 (bk1 (fun r4 ι4 => 
                  (if r4 = (0 : Int) then
                    Q (.inl none) ι4
                  else
                    bC sc 118 [bi x1, bi (x2 / bm_p2 r1)] ι4 (bk1 (fun r5 ι5 => 
                      bW sc 92 119 [br 8 0, bi x1, bi x2, bi r1, bi (bm_band x2 (1 * bm_p2 r1 - 1)), bi (x2 / bm_p2 r1), bi r5, bi 0] [] ι5 Q) (bq Q)))) (bq Q))
              else
                bC sc 3 [br 0 0, bi 8] ι3 (bk0 (fun ι6 => 
                  bC sc 2 [br 0 0] ι6 (bk1 (fun r7 ι7 => 
                    (if r7 = (0 : Int) then
                      Q (.inl none) ι7
                    else
                      bC sc 118 [bi x1, bi (x2 / bm_p2 r1)] ι7 (bk1 (fun r8 ι8 => 
                        bW sc 92 119 [br 8 0, bi x1, bi x2, bi r1, bi (bm_band x2 (1 * bm_p2 r1 - 1)), bi (x2 / bm_p2 r1), bi r8, bi 0] [] ι8 Q) (bq Q)))) (bq Q))) (bq Q)))) (bq Q))
          else
            bC sc 3 [br 0 0, bi 11] ι2 (bk0 (fun ι9 => 
              bC sc 2 [br 0 0] ι9 (bk1 (fun r10 ι10 => 
                (if r10 = (0 : Int) then
                  Q (.inl none) ι10
                else
                  bC sc 118 [bi x1, bi (x2 / bm_p2 r1)] ι10 (bk1 (fun r11 ι11 => 
                    bW sc 92 119 [br 8 0, bi x1, bi x2, bi r1, bi (bm_band x2 (1 * bm_p2 r1 - 1)), bi (x2 / bm_p2 r1), bi r11, bi 0] [] ι11 Q) (bq Q)))) (bq Q))) (bq Q)))
        else
          bC sc 3 [br 0 0, bi 10] ι2 (bk0 (fun ι12 => 
            bC sc 2 [br 0 0] ι12 (bk1 (fun r13 ι13 => 
              (if r13 = (0 : Int) then
                Q (.inl none) ι13
              else
                bC sc 118 [bi x1, bi (x2 / bm_p2 r1)] ι13 (bk1 (fun r14 ι14 => 
                  bW sc 92 119 [br 8 0, bi x1, bi x2, bi r1, bi (bm_band x2 (1 * bm_p2 r1 - 1)), bi (x2 / bm_p2 r1), bi r14, bi 0] [] ι14 Q) (bq Q)))) (bq Q))) (bq Q)))) (bq Q))) (bq Q))) :
  bC sc 92 [br 8 0, bi x1, bi x2] ι Q := bm_snd 92 [119] 51 h
set_option maxRecDepth 100000 in
theorem e_O_makeWord_119 {sc : bm_Sc} {Q : bm_O → bm_S → Prop} {x1 : Int} {v2 : bm_V} {v3 : bm_V} {x4 : Int} {x5 : Int} {x6 : Int} {x7 : Int} {ι : bm_S}
  (h : (if x6 ≤ x7 then
      bC sc 79 [br 8 0, bi 11] ι (bk0 (fun ι1 => 
        Q (.inl none) ι1) (bq Q))
    else
      bC sc 119 [br 10 0, bi x1, bi x4, bi x5, bi x7] ι (bk1 (fun r2 ι2 => 
        bC sc 17 [br 2 1, bi r2] ι2 (bk0 (fun ι3 => 
          (bm_rg (x7 + 1)) ∧
          bW sc 92 119 [br 8 0, bi x1, v2, v3, bi x4, bi x5, bi x6, bi (x7 + 1)] [] ι3 Q) (bq Q))) (bq Q)))) :
  bW sc 92 119 [br 8 0, bi x1, v2, v3, bi x4, bi x5, bi x6, bi x7] [] ι Q := bm_snd 92 [119] 16 h
-- X_feed
set_option maxRecDepth 100000 in
theorem e_X_feed_0 {sc : bm_Sc} {Q : bm_O → bm_S → Prop} {x1 : Int} {x2 : Int} {x3 : Int} {x4 : Int} {x5 : Int} {ι : bm_S}
  (h : (bm_rg (ι 2 0 1 + 20)) ∧
    (if ι 2 0 1 + 20 ≤ (2400 : Int) then
      bC sc 18 [br 2 0, bi x1] ι (bk0 (fun ι1 => 
        bC sc 18 [br 2 0, bi x2] ι1 (bk0 (fun ι2 => 
          bC sc 18 [br 2 0, bi x3] ι2 (bk0 (fun ι3 => 
            bC sc 18 [br 2 0, bi x4] ι3 (bk0 (fun ι4 => 
              bC sc 18 [br 2 0, bi x5] ι4 (bk0 (fun ι5 => 
                Q (.inl (some (bi (ι5 2 0 1)))) ι5) (bq Q))) (bq Q))) (bq Q))) (bq Q))) (bq Q))
    else
      Q (.inl (some (bi (-3)))) ι)) :
  bC sc 121 [br 11 0, bi x1, bi x2, bi x3, bi x4, bi x5] ι Q := bm_snd 121 [] 31 h
-- X_end
set_option maxRecDepth 100000 in
theorem e_X_end_0 {sc : bm_Sc} {Q : bm_O → bm_S → Prop} {x1 : Int} {ι : bm_S}
  (h : (if x1 < (0 : Int) then
      Q (.inl (some (bi (-1)))) ι
    else
      (if (20 : Int) < x1 then
        Q (.inl (some (bi (-1)))) ι
      else
        (if (20 : Int) ≤ ι 2 0 1 then
          (bm_rg (ι 2 0 1 - 20)) ∧
          (bm_rg (ι 2 0 1 - 20 + x1)) ∧
          bC sc 16 [br 2 0, bi (ι 2 0 1 - 20 + x1)] ι (bk0 (fun ι1 => 
            Q (.inl (some (bi (ι1 2 0 1)))) ι1) (bq Q))
        else
          Q (.inl (some (bi (-1)))) ι)))) :
  bC sc 122 [br 11 0, bi x1] ι Q := bm_snd 122 [] 24 h
-- X_bits
set_option maxRecDepth 100000 in
theorem e_X_bits_0 {sc : bm_Sc} {Q : bm_O → bm_S → Prop} {x1 : Int} {x2 : Int} {ι : bm_S}
  (h : (if x2 < (1 : Int) then
      Q (.inl (some (bi (-1)))) ι
    else
      (if x2 ≤ (32 : Int) then
        (bm_rg (ι 2 0 2 + x2)) ∧
        (if ι 2 0 2 + x2 ≤ (19200 : Int) then
          bC sc 19 [br 2 0, bi x1, bi x2] ι (bk0 (fun ι1 => 
            Q (.inl (some (bi (ι1 2 0 2)))) ι1) (bq Q))
        else
          Q (.inl (some (bi (-3)))) ι)
      else
        Q (.inl (some (bi (-1)))) ι))) :
  bC sc 123 [br 11 0, bi x1, bi x2] ι Q := bm_snd 123 [] 22 h
-- X_spoil
set_option maxRecDepth 100000 in
theorem e_X_spoil_0 {sc : bm_Sc} {Q : bm_O → bm_S → Prop} {x1 : Int} {x2 : Int} {ι : bm_S}
  (h : (if x1 < (0 : Int) then
      Q (.inl (some (bi (-1)))) ι
    else
      (if ι 2 0 1 ≤ x1 then
        Q (.inl (some (bi (-1)))) ι
      else
        (if x2 < (1 : Int) then
          Q (.inl (some (bi (-1)))) ι
        else
          (if x2 ≤ (255 : Int) then
            (0 ≤ x1 ∧ x1 < (2400 : Int)) ∧
            (0 ≤ x1 ∧ x1 < (2400 : Int)) ∧
            bC sc 16 [br 2 0, bi (ι 2 0 1)] (up ι 20 0 x1 (bm_byte (bm_byte (bm_xor (ι 20 0 x1) (bm_byte x2))))) (bk0 (fun ι1 => 
              bC sc 15 [br 2 0, bi x1] ι1 (bk1 (fun r2 ι2 => 
                Q (.inl (some (bi r2))) ι2) (bq Q))) (bq Q))
          else
            Q (.inl (some (bi (-1)))) ι))))) :
  bC sc 124 [br 11 0, bi x1, bi x2] ι Q := bm_snd 124 [] 35 h
-- X_wipe
set_option maxRecDepth 100000 in
theorem e_X_wipe_0 {sc : bm_Sc} {Q : bm_O → bm_S → Prop}  {ι : bm_S}
  (h : bC sc 16 [br 2 0, bi 0] ι (bk0 (fun ι1 => 
      Q (.inl (some (bi (ι 2 0 1)))) ι1) (bq Q))) :
  bC sc 125 [br 11 0] ι Q := bm_snd 125 [] 10 h
-- X_word
set_option maxRecDepth 100000 in
theorem e_X_word_0 {sc : bm_Sc} {Q : bm_O → bm_S → Prop}  {ι : bm_S}
  (h : (if ι 2 0 1 < (4 : Int) then
      Q (.inl (some (bi (-1)))) ι
    else
      (if ι 2 0 1 ≤ (10 : Int) then
        bC sc 109 [br 10 0, bi (ι 2 0 1)] ι (bk1 (fun r1 ι1 => 
          (if r1 < (32 : Int) then
            bC sc 112 [br 10 0, br 2 0] ι1 (bk0 (fun ι2 => 
              bC sc 16 [br 2 0, bi 0] ι2 (bk0 (fun ι3 => 
                bC sc 109 [br 10 0, bi (ι 2 0 1)] ι3 (bk1 (fun r4 ι4 => 
                  Q (.inl (some (bi r4))) ι4) (bq Q))) (bq Q))) (bq Q))
          else
            Q (.inl (some (bi (-3)))) ι1)) (bq Q))
      else
        Q (.inl (some (bi (-1)))) ι))) :
  bC sc 126 [br 11 0] ι Q := bm_snd 126 [] 30 h
-- X_clear
set_option maxRecDepth 100000 in
theorem e_X_clear_0 {sc : bm_Sc} {Q : bm_O → bm_S → Prop}  {ι : bm_S}
  (h : bC sc 110 [br 10 0] ι (bk1 (fun r1 ι1 => 
      bC sc 111 [br 10 0] ι1 (bk0 (fun ι2 => 
        Q (.inl (some (bi r1))) ι2) (bq Q))) (bq Q))) :
  bC sc 127 [br 11 0] ι Q := bm_snd 127 [] 9 h
-- X_digest
set_option maxRecDepth 100000 in
theorem e_X_digest_0 {sc : bm_Sc} {Q : bm_O → bm_S → Prop}  {ι : bm_S}
  (h : bC sc 114 [br 10 0] ι (bk1 (fun r1 ι1 => 
      Q (.inl (some (bi r1))) ι1) (bq Q))) :
  bC sc 128 [br 11 0] ι Q := bm_snd 128 [] 4 h
-- X_changed
set_option maxRecDepth 100000 in
theorem e_X_changed_0 {sc : bm_Sc} {Q : bm_O → bm_S → Prop} {x1 : Int} {x2 : Int} {x3 : Int} {x4 : Int} {ι : bm_S}
  (h : (if x2 < (0 : Int) then
      Q (.inl (some (bi (-1)))) ι
    else
      bC sc 109 [br 10 0, bi x1] ι (bk1 (fun r1 ι1 => 
        (if r1 ≤ x2 then
          Q (.inl (some (bi (-1)))) ι1
        else
          (if x3 < (0 : Int) then
            Q (.inl (some (bi (-1)))) ι1
          else
            (if x3 < (24 : Int) then
              bC sc 118 [bi x1, bi x3] ι1 (bk1 (fun r2 ι2 => 
                (if x4 = (-1 : Int) then
                  Q (.inl (some (bi r2))) ι2
                else
                  (if x4 < (0 : Int) then
                    Q (.inl (some (bi (-1)))) ι2
                  else
                    (if x4 < r2 then
                      bC sc 119 [br 10 0, bi x1, bi x2, bi x3, bi x4] ι2 (bk1 (fun r3 ι3 => 
                        Q (.inl (some (bi r3))) ι3) (bq Q))
                    else
                      Q (.inl (some (bi (-1)))) ι2)))) (bq Q))
            else
              Q (.inl (some (bi (-1)))) ι1)))) (bq Q)))) :
  bC sc 129 [br 11 0, bi x1, bi x2, bi x3, bi x4] ι Q := bm_snd 129 [] 33 h
-- X_pack
set_option maxRecDepth 100000 in
theorem e_X_pack_0 {sc : bm_Sc} {Q : bm_O → bm_S → Prop} {x1 : Int} {ι : bm_S}
  (h : (if x1 < (0 : Int) then
      Q (.inl (some (bi (-1)))) ι
    else
      (if (2 : Int) < x1 then
        Q (.inl (some (bi (-1)))) ι
      else
        (if ι 2 0 1 ≤ (2000 : Int) then
          bC sc 94 [br 9 0, bi x1] ι (bk0 (fun ι1 => 
            bC sc 16 [br 2 0, bi 0] ι1 (bk0 (fun ι2 => 
              Q (.inl (some (bi (ι2 2 1 1)))) ι2) (bq Q))) (bq Q))
        else
          Q (.inl (some (bi (-1)))) ι)))) :
  bC sc 130 [br 11 0, bi x1] ι Q := bm_snd 130 [] 22 h
-- X_open
set_option maxRecDepth 100000 in
theorem e_X_open_0 {sc : bm_Sc} {Q : bm_O → bm_S → Prop}  {ι : bm_S}
  (h : bC sc 69 [br 8 0] ι (bk1 (fun r1 ι1 => 
      bC sc 16 [br 2 0, bi 0] ι1 (bk0 (fun ι2 => 
        Q (.inl (some (bi r1))) ι2) (bq Q))) (bq Q))) :
  bC sc 131 [br 11 0] ι Q := bm_snd 131 [] 10 h
-- X_pass
set_option maxRecDepth 100000 in
theorem e_X_pass_0 {sc : bm_Sc} {Q : bm_O → bm_S → Prop}  {ι : bm_S}
  (h : (if ι 2 1 1 ≤ (2400 : Int) then
      bC sc 16 [br 2 0, bi 0] ι (bk0 (fun ι1 => 
        bW sc 132 26 [br 11 0, bi 0] [] ι1 Q) (bq Q))
    else
      Q (.inl (some (bi (-3)))) ι)) :
  bC sc 132 [br 11 0] ι Q := bm_snd 132 [26] 12 h
set_option maxRecDepth 100000 in
theorem e_X_pass_26 {sc : bm_Sc} {Q : bm_O → bm_S → Prop} {x1 : Int} {ι : bm_S}
  (h : (if ι 2 1 1 ≤ x1 then
      Q (.inl (some (bi (ι 2 0 1)))) ι
    else
      bC sc 15 [br 2 1, bi x1] ι (bk1 (fun r1 ι1 => 
        bC sc 17 [br 2 0, bi r1] ι1 (bk0 (fun ι2 => 
          (bm_rg (x1 + 1)) ∧
          bW sc 132 26 [br 11 0, bi (x1 + 1)] [] ι2 Q) (bq Q))) (bq Q)))) :
  bW sc 132 26 [br 11 0, bi x1] [] ι Q := bm_snd 132 [26] 15 h
-- X_out
set_option maxRecDepth 100000 in
theorem e_X_out_0 {sc : bm_Sc} {Q : bm_O → bm_S → Prop} {x1 : Int} {ι : bm_S}
  (h : (if x1 < (0 : Int) then
      Q (.inl (some (bi (-1)))) ι
    else
      (if x1 < ι 2 1 1 then
        bC sc 15 [br 2 1, bi x1] ι (bk1 (fun r1 ι1 => 
          Q (.inl (some (bi r1))) ι1) (bq Q))
      else
        Q (.inl (some (bi (-1)))) ι))) :
  bC sc 133 [br 11 0, bi x1] ι Q := bm_snd 133 [] 12 h
-- X_read
set_option maxRecDepth 100000 in
theorem e_X_read_0 {sc : bm_Sc} {Q : bm_O → bm_S → Prop}  {ι : bm_S}
  (h : Q (.inl (some (bi (ι 0 0 1)))) ι) :
  bC sc 134 [br 11 0] ι Q := bm_snd 134 [] 5 h
-- X_part
set_option maxRecDepth 100000 in
theorem e_X_part_0 {sc : bm_Sc} {Q : bm_O → bm_S → Prop} {x1 : Int} {x2 : Int} {ι : bm_S}
  (h : (if x1 < (0 : Int) then
      Q (.inl (some (bi (-1)))) ι
    else
      (if min (ι 8 0 3) 60 ≤ x1 then
        Q (.inl (some (bi (-1)))) ι
      else
        (if x2 < (0 : Int) then
          Q (.inl (some (bi (-1)))) ι
        else
          (if x2 < (12 : Int) then
            (bm_rg (x1 * 12)) ∧
            (bm_rg (x1 * 12 + x2)) ∧
            (0 ≤ x1 * 12 + x2 ∧ x1 * 12 + x2 < (720 : Int)) ∧
            Q (.inl (some (bi (ι 52 0 (x1 * 12 + x2))))) ι
          else
            Q (.inl (some (bi (-1)))) ι))))) :
  bC sc 135 [br 11 0, bi x1, bi x2] ι Q := bm_snd 135 [] 24 h
-- X_ring
set_option maxRecDepth 100000 in
theorem e_X_ring_0 {sc : bm_Sc} {Q : bm_O → bm_S → Prop} {x1 : Int} {ι : bm_S}
  (h : (if x1 < (0 : Int) then
      Q (.inl (some (bi (-1)))) ι
    else
      (if x1 ≤ (3 : Int) then
        (0 ≤ x1 ∧ x1 < (4 : Int)) ∧
        Q (.inl (some (bi (ι 51 0 x1)))) ι
      else
        Q (.inl (some (bi (-1)))) ι))) :
  bC sc 136 [br 11 0, bi x1] ι Q := bm_snd 136 [] 11 h
-- X_map
set_option maxRecDepth 100000 in
theorem e_X_map_46_0 {sc : bm_Sc} {Q : bm_O → bm_S → Prop} {x1 : Int} {x2 : Int} {ι : bm_S}
  (h : (if ι 8 0 5 = (0 : Int) then
      Q (.inl (some (bi (-1)))) ι
    else
      (if x1 < (0 : Int) then
        Q (.inl (some (bi (-1)))) ι
      else
        (if (1 : Int) < x1 then
          Q (.inl (some (bi (-1)))) ι
        else
          (if x2 < (0 : Int) then
            Q (.inl (some (bi (-1)))) ι
          else
            ((0 : Int) = 0) ∧
            bC sc 64 [br 7 (ι 8 0 4), bi x1] ι (bk1 (fun r1 ι1 => 
              (if x2 < r1 then
                ((0 : Int) = 0) ∧
                bC sc 63 [br 7 (ι1 8 0 4), bi x1] ι1 (bk2 (fun t2 r2 ι2 => 
                  bW sc 137 51 [br 11 0, bi x1, bi x2] [br t2 r2] ι2 Q) (bq Q))
              else
                Q (.inl (some (bi (-1)))) ι1)) (bq Q))))))) :
  bC sc 137 [br 11 0, bi x1, bi x2] ι Q := bm_snd 137 [51] 24 h
set_option maxRecDepth 100000 in
theorem e_X_map_46_51 {sc : bm_Sc} {Q : bm_O → bm_S → Prop} {v0 : bm_V} {v1 : bm_V} {x2 : Int} {ns0 : Int} {ι : bm_S}
  (h : (0 ≤ x2 ∧ x2 < (768 : Int)) ∧
    Q (.inl (some (bi (ι 46 ns0 x2)))) ι) :
  bW sc 137 51 [v0, v1, bi x2] [br 46 ns0] ι Q := bm_snd 137 [51] 3 h
set_option maxRecDepth 100000 in
theorem e_X_map_47_0 {sc : bm_Sc} {Q : bm_O → bm_S → Prop} {x1 : Int} {x2 : Int} {ι : bm_S}
  (h : (if ι 8 0 5 = (0 : Int) then
      Q (.inl (some (bi (-1)))) ι
    else
      (if x1 < (0 : Int) then
        Q (.inl (some (bi (-1)))) ι
      else
        (if (1 : Int) < x1 then
          Q (.inl (some (bi (-1)))) ι
        else
          (if x2 < (0 : Int) then
            Q (.inl (some (bi (-1)))) ι
          else
            ((0 : Int) = 0) ∧
            bC sc 64 [br 7 (ι 8 0 4), bi x1] ι (bk1 (fun r1 ι1 => 
              (if x2 < r1 then
                ((0 : Int) = 0) ∧
                bC sc 63 [br 7 (ι1 8 0 4), bi x1] ι1 (bk2 (fun t2 r2 ι2 => 
                  bW sc 137 51 [br 11 0, bi x1, bi x2] [br t2 r2] ι2 Q) (bq Q))
              else
                Q (.inl (some (bi (-1)))) ι1)) (bq Q))))))) :
  bC sc 137 [br 11 0, bi x1, bi x2] ι Q := bm_snd 137 [51] 24 h
set_option maxRecDepth 100000 in
theorem e_X_map_47_51 {sc : bm_Sc} {Q : bm_O → bm_S → Prop} {v0 : bm_V} {v1 : bm_V} {x2 : Int} {ns0 : Int} {ι : bm_S}
  (h : (0 ≤ x2 ∧ x2 < (48 : Int)) ∧
    Q (.inl (some (bi (ι 47 ns0 x2)))) ι) :
  bW sc 137 51 [v0, v1, bi x2] [br 47 ns0] ι Q := bm_snd 137 [51] 3 h
-- X_length
set_option maxRecDepth 100000 in
theorem e_X_length_0 {sc : bm_Sc} {Q : bm_O → bm_S → Prop} {x1 : Int} {x2 : Int} {x3 : Int} {ι : bm_S}
  (h : (if ι 8 0 5 = (0 : Int) then
      Q (.inl (some (bi (-1)))) ι
    else
      (if x1 < (0 : Int) then
        Q (.inl (some (bi (-1)))) ι
      else
        (if (2 : Int) < x1 then
          Q (.inl (some (bi (-1)))) ι
        else
          (if x2 < (0 : Int) then
            Q (.inl (some (bi (-1)))) ι
          else
            ((0 : Int) = 0) ∧
            bC sc 65 [br 7 (ι 8 0 4), bi x1] ι (bk1 (fun r1 ι1 => 
              (if x2 < r1 then
                (if x3 < (0 : Int) then
                  Q (.inl (some (bi (-1)))) ι1
                else
                  ((0 : Int) = 0) ∧
                  bC sc 66 [br 7 (ι1 8 0 4), bi x1] ι1 (bk1 (fun r2 ι2 => 
                    (if x3 < r2 then
                      ((0 : Int) = 0) ∧
                      bC sc 67 [br 7 (ι2 8 0 4), bi x1, bi x2] ι2 (bk3 (fun r3 ι3 => 
                        bC sc 24 [br 3 r3, bi x3] ι3 (bk1 (fun r4 ι4 => 
                          Q (.inl (some (bi r4))) ι4) (bq Q))) (bq Q))
                    else
                      Q (.inl (some (bi (-1)))) ι2)) (bq Q)))
              else
                Q (.inl (some (bi (-1)))) ι1)) (bq Q))))))) :
  bC sc 138 [br 11 0, bi x1, bi x2, bi x3] ι Q := bm_snd 138 [] 36 h
-- X_command
set_option maxRecDepth 100000 in
theorem e_X_command_0 {sc : bm_Sc} {Q : bm_O → bm_S → Prop} {x1 : Int} {x2 : Int} {ι : bm_S}
  (h : (if x1 < (0 : Int) then
      Q (.inl (some (bi (-1)))) ι
    else
      (if x1 < ι 9 0 4 then
        (if x2 = 0 then
          (0 ≤ x1 ∧ x1 < (501 : Int)) ∧
          Q (.inl (some (bi (ι 55 0 x1)))) ι
        else
          (if x2 = 1 then
            (0 ≤ x1 ∧ x1 < (501 : Int)) ∧
            Q (.inl (some (bi (ι 56 0 x1)))) ι
          else
            (if x2 = 2 then
              (0 ≤ x1 ∧ x1 < (501 : Int)) ∧
              Q (.inl (some (bi (ι 57 0 x1)))) ι
            else
              (if x2 = 3 then
                (0 ≤ x1 ∧ x1 < (501 : Int)) ∧
                Q (.inl (some (bi (ι 58 0 x1)))) ι
              else
                Q (.inl (some (bi (-1)))) ι))))
      else
        Q (.inl (some (bi (-1)))) ι))) :
  bC sc 139 [br 11 0, bi x1, bi x2] ι Q := bm_snd 139 [] 15 h
-- X_count
set_option maxRecDepth 100000 in
theorem e_X_count_0 {sc : bm_Sc} {Q : bm_O → bm_S → Prop} {x1 : Int} {ι : bm_S}
  (h : (if x1 = 0 then
      bC sc 110 [br 10 0] ι (bk1 (fun r1 ι1 => 
        Q (.inl (some (bi r1))) ι1) (bq Q))
    else
      (if x1 = 1 then
        Q (.inl (some (bi (ι 2 0 1)))) ι
      else
        (if x1 = 2 then
          Q (.inl (some (bi (ι 2 1 1)))) ι
        else
          (if x1 = 3 then
            Q (.inl (some (bi (ι 8 0 3)))) ι
          else
            (if x1 = 4 then
              Q (.inl (some (bi (ι 9 0 4)))) ι
            else
              Q (.inl (some (bi (-1)))) ι)))))) :
  bC sc 140 [br 11 0, bi x1] ι Q := bm_snd 140 [] 6 h
-- X_bitsIn
set_option maxRecDepth 100000 in
theorem e_X_bitsIn_0 {sc : bm_Sc} {Q : bm_O → bm_S → Prop} {x0 : Int} {ι : bm_S}
  (h : bW sc 141 4 [bi x0, bi 0, bi 0] [] ι Q) :
  bC sc 141 [bi x0] ι Q := bm_snd 141 [4] 5 h
set_option maxRecDepth 100000 in
theorem e_X_bitsIn_4 {sc : bm_Sc} {Q : bm_O → bm_S → Prop} {x0 : Int} {x1 : Int} {x2 : Int} {ι : bm_S}
  (h : (if (31 : Int) ≤ x2 then
      Q (.inl (some (bi x1))) ι
    else
      (0 ≤ x2 ∧ x2 < 32) ∧
      (if x0 / bm_p2 x2 ≤ (0 : Int) then
        (bm_rg (x2 + 1)) ∧
        bW sc 141 4 [bi x0, bi x1, bi (x2 + 1)] [] ι Q
      else
        (bm_rg (x2 + 1)) ∧
        (bm_rg (x2 + 1)) ∧
        bW sc 141 4 [bi x0, bi (x2 + 1), bi (x2 + 1)] [] ι Q))) :
  bW sc 141 4 [bi x0, bi x1, bi x2] [] ι Q := bm_snd 141 [4] 14 h
-- X_startRing
set_option maxRecDepth 100000 in
theorem e_X_startRing_51_0 {sc : bm_Sc} {Q : bm_O → bm_S → Prop}  {ι : bm_S}
  (h : (0 ≤ (0 : Int) ∧ (0 : Int) < (4 : Int)) ∧
    (0 ≤ (1 : Int) ∧ (1 : Int) < (4 : Int)) ∧
    (0 ≤ (2 : Int) ∧ (2 : Int) < (4 : Int)) ∧
    (0 ≤ (3 : Int) ∧ (3 : Int) < (4 : Int)) ∧
    Q (.inl none) (up (up (up (up ι 51 0 0 4) 51 0 1 11) 51 0 2 15) 51 0 3 16)) :
  bC sc 142 [br 51 0] ι Q := bm_snd 142 [] 17 h
set_option maxRecDepth 100000 in
theorem e_X_startRing_63_0 {sc : bm_Sc} {Q : bm_O → bm_S → Prop}  {ι : bm_S}
  (h : (0 ≤ (0 : Int) ∧ (0 : Int) < (4 : Int)) ∧
    (0 ≤ (1 : Int) ∧ (1 : Int) < (4 : Int)) ∧
    (0 ≤ (2 : Int) ∧ (2 : Int) < (4 : Int)) ∧
    (0 ≤ (3 : Int) ∧ (3 : Int) < (4 : Int)) ∧
    Q (.inl none) (up (up (up (up ι 63 0 0 4) 63 0 1 11) 63 0 2 15) 63 0 3 16)) :
  bC sc 142 [br 63 0] ι Q := bm_snd 142 [] 17 h
-- X_comeToRing
set_option maxRecDepth 100000 in
theorem e_X_comeToRing_51_0 {sc : bm_Sc} {Q : bm_O → bm_S → Prop} {x1 : Int} {ι : bm_S}
  (h : (0 ≤ (2 : Int) ∧ (2 : Int) < (4 : Int)) ∧
    (0 ≤ (3 : Int) ∧ (3 : Int) < (4 : Int)) ∧
    (0 ≤ (1 : Int) ∧ (1 : Int) < (4 : Int)) ∧
    (0 ≤ (2 : Int) ∧ (2 : Int) < (4 : Int)) ∧
    (0 ≤ (0 : Int) ∧ (0 : Int) < (4 : Int)) ∧
    (0 ≤ (1 : Int) ∧ (1 : Int) < (4 : Int)) ∧
    (0 ≤ (0 : Int) ∧ (0 : Int) < (4 : Int)) ∧
    Q (.inl none) (up (up (up (up ι 51 0 3 (ι 51 0 2)) 51 0 2 (ι 51 0 1)) 51 0 1 (ι 51 0 0)) 51 0 0 x1)) :
  bC sc 143 [br 51 0, bi x1] ι Q := bm_snd 143 [] 23 h
set_option maxRecDepth 100000 in
theorem e_X_comeToRing_63_0 {sc : bm_Sc} {Q : bm_O → bm_S → Prop} {x1 : Int} {ι : bm_S}
  (h : (0 ≤ (2 : Int) ∧ (2 : Int) < (4 : Int)) ∧
    (0 ≤ (3 : Int) ∧ (3 : Int) < (4 : Int)) ∧
    (0 ≤ (1 : Int) ∧ (1 : Int) < (4 : Int)) ∧
    (0 ≤ (2 : Int) ∧ (2 : Int) < (4 : Int)) ∧
    (0 ≤ (0 : Int) ∧ (0 : Int) < (4 : Int)) ∧
    (0 ≤ (1 : Int) ∧ (1 : Int) < (4 : Int)) ∧
    (0 ≤ (0 : Int) ∧ (0 : Int) < (4 : Int)) ∧
    Q (.inl none) (up (up (up (up ι 63 0 3 (ι 63 0 2)) 63 0 2 (ι 63 0 1)) 63 0 1 (ι 63 0 0)) 63 0 0 x1)) :
  bC sc 143 [br 63 0, bi x1] ι Q := bm_snd 143 [] 23 h
-- X_context
set_option maxRecDepth 100000 in
theorem e_X_context_0 {sc : bm_Sc} {Q : bm_O → bm_S → Prop} {x0 : Int} {x1 : Int} {x2 : Int} {ι : bm_S}
  (h : (if x0 = 0 then
      Q (.inl (some (bi (x1 % 64)))) ι
    else
      (if x0 = 1 then
        (0 ≤ (2 : Int) ∧ (2 : Int) < 32) ∧
        Q (.inl (some (bi (x1 / 4)))) ι
      else
        (if x0 = 2 then
          bC sc 145 [bi x1] ι (bk1 (fun r3 ι3 => 
            bC sc 148 [bi x2] ι3 (bk1 (fun r4 ι4 => 
              Q (.inl (some (bi (bm_or r3 r4)))) ι4) (bq Q))) (bq Q))
        else
          bC sc 149 [bi x1] ι (bk1 (fun r1 ι1 => 
            (bm_rg (8 * r1)) ∧
            bC sc 149 [bi x2] ι1 (bk1 (fun r2 ι2 => 
              (bm_rg (8 * r1 + r2)) ∧
              Q (.inl (some (bi (8 * r1 + r2)))) ι2) (bq Q))) (bq Q)))))) :
  bC sc 144 [bi x0, bi x1, bi x2] ι Q := bm_snd 144 [] 10 h
-- X_firstOf
set_option maxRecDepth 100000 in
theorem e_X_firstOf_0 {sc : bm_Sc} {Q : bm_O → bm_S → Prop} {x0 : Int} {ι : bm_S}
  (h : (if x0 < (128 : Int) then
      (if x0 < (32 : Int) then
        bW sc 145 38 [bi x0] [] ι Q
      else
        (if x0 = (127 : Int) then
          bW sc 145 38 [bi x0] [] ι Q
        else
          (if x0 < (97 : Int) then
            bW sc 145 92 [bi x0] [] ι Q
          else
            (if (122 : Int) < x0 then
              bW sc 145 92 [bi x0] [] ι Q
            else
              (bm_rg (x0 - 32)) ∧
              bC sc 146 [bi (x0 - 32)] ι (bk1 (fun r1 ι1 => 
                (if r1 = (0 : Int) then
                  Q (.inl (some (bi 60))) ι1
                else
                  Q (.inl (some (bi 56))) ι1)) (bq Q))))))
    else
      (if (192 : Int) ≤ x0 then
        (bm_rg (2 + x0 % 2)) ∧
        Q (.inl (some (bi (2 + x0 % 2)))) ι
      else
        Q (.inl (some (bi (x0 % 2)))) ι))) :
  bC sc 145 [bi x0] ι Q := bm_snd 145 [38, 56, 92] 23 h
set_option maxRecDepth 100000 in
theorem e_X_firstOf_38 {sc : bm_Sc} {Q : bm_O → bm_S → Prop} {x0 : Int} {ι : bm_S}
  (h : (if x0 = (9 : Int) then
      bW sc 145 56 [bi x0] [] ι Q
    else
      (if x0 = (10 : Int) then
        bW sc 145 56 [bi x0] [] ι Q
      else
        (if x0 = (13 : Int) then
          bW sc 145 56 [bi x0] [] ι Q
        else
          Q (.inl (some (bi 0))) ι)))) :
  bW sc 145 38 [bi x0] [] ι Q := bm_snd 145 [38, 56, 92] 11 h
set_option maxRecDepth 100000 in
theorem e_X_firstOf_56 {sc : bm_Sc} {Q : bm_O → bm_S → Prop} {v0 : bm_V} {ι : bm_S}
  (h : Q (.inl (some (bi 4))) ι) :
  bW sc 145 56 [v0] [] ι Q := bm_snd 145 [38, 56, 92] 3 h
set_option maxRecDepth 100000 in
theorem e_X_firstOf_92 {sc : bm_Sc} {Q : bm_O → bm_S → Prop} {x0 : Int} {ι : bm_S}
  (h : (if x0 < (65 : Int) then
      (if x0 < (48 : Int) then
        bC sc 147 [bi x0] ι (bk1 (fun r1 ι1 => 
          Q (.inl (some (bi r1))) ι1) (bq Q))
      else
        (if (57 : Int) < x0 then
          bC sc 147 [bi x0] ι (bk1 (fun r2 ι2 => 
            Q (.inl (some (bi r2))) ι2) (bq Q))
        else
          Q (.inl (some (bi 44))) ι))
    else
      (if (90 : Int) < x0 then
        (if x0 < (48 : Int) then
          bC sc 147 [bi x0] ι (bk1 (fun r3 ι3 => 
            Q (.inl (some (bi r3))) ι3) (bq Q))
        else
          (if (57 : Int) < x0 then
            bC sc 147 [bi x0] ι (bk1 (fun r4 ι4 => 
              Q (.inl (some (bi r4))) ι4) (bq Q))
          else
            Q (.inl (some (bi 44))) ι))
      else
        bC sc 146 [bi x0] ι (bk1 (fun r5 ι5 => 
          (if r5 = (0 : Int) then
            Q (.inl (some (bi 52))) ι5
          else
            Q (.inl (some (bi 48))) ι5)) (bq Q))))) :
  bW sc 145 92 [bi x0] [] ι Q := bm_snd 145 [38, 56, 92] 15 h
-- X_isVowel
set_option maxRecDepth 100000 in
theorem e_X_isVowel_0 {sc : bm_Sc} {Q : bm_O → bm_S → Prop} {x0 : Int} {ι : bm_S}
  (h : (if x0 = (65 : Int) then
      ((1 : Int) = 0 ∨ (1 : Int) = 1) ∧
      Q (.inl (some (bi 1))) ι
    else
      (if x0 = (69 : Int) then
        ((1 : Int) = 0 ∨ (1 : Int) = 1) ∧
        Q (.inl (some (bi 1))) ι
      else
        (if x0 = (73 : Int) then
          ((1 : Int) = 0 ∨ (1 : Int) = 1) ∧
          Q (.inl (some (bi 1))) ι
        else
          (if x0 = (79 : Int) then
            ((1 : Int) = 0 ∨ (1 : Int) = 1) ∧
            Q (.inl (some (bi 1))) ι
          else
            (if x0 = (85 : Int) then
              ((1 : Int) = 0 ∨ (1 : Int) = 1) ∧
              Q (.inl (some (bi 1))) ι
            else
              ((0 : Int) = 0 ∨ (0 : Int) = 1) ∧
              Q (.inl (some (bi 0))) ι)))))) :
  bC sc 146 [bi x0] ι Q := bm_snd 146 [] 18 h
-- X_firstOfSign
set_option maxRecDepth 100000 in
theorem e_X_firstOfSign_0 {sc : bm_Sc} {Q : bm_O → bm_S → Prop} {x0 : Int} {ι : bm_S}
  (h : (if x0 = 32 then
      Q (.inl (some (bi 8))) ι
    else
      (if x0 = 34 then
        bW sc 147 151 [bi x0] [] ι Q
      else
        (if x0 = 37 then
          Q (.inl (some (bi 20))) ι
        else
          (if x0 = 39 then
            bW sc 147 151 [bi x0] [] ι Q
          else
            (if x0 = 40 then
              bW sc 147 157 [bi x0] [] ι Q
            else
              (if x0 = 41 then
                bW sc 147 160 [bi x0] [] ι Q
              else
                (if x0 = 44 then
                  bW sc 147 163 [bi x0] [] ι Q
                else
                  (if x0 = 46 then
                    Q (.inl (some (bi 36))) ι
                  else
                    (if x0 = 58 then
                      bW sc 147 163 [bi x0] [] ι Q
                    else
                      (if x0 = 59 then
                        bW sc 147 163 [bi x0] [] ι Q
                      else
                        (if x0 = 60 then
                          bW sc 147 157 [bi x0] [] ι Q
                        else
                          (if x0 = 61 then
                            Q (.inl (some (bi 40))) ι
                          else
                            (if x0 = 62 then
                              bW sc 147 160 [bi x0] [] ι Q
                            else
                              (if x0 = 91 then
                                bW sc 147 157 [bi x0] [] ι Q
                              else
                                (if x0 = 93 then
                                  bW sc 147 160 [bi x0] [] ι Q
                                else
                                  (if x0 = 123 then
                                    bW sc 147 157 [bi x0] [] ι Q
                                  else
                                    (if x0 = 125 then
                                      bW sc 147 160 [bi x0] [] ι Q
                                    else
                                      Q (.inl (some (bi 12))) ι)))))))))))))))))) :
  bC sc 147 [bi x0] ι Q := bm_snd 147 [151, 157, 160, 163] 4 h
set_option maxRecDepth 100000 in
theorem e_X_firstOfSign_151 {sc : bm_Sc} {Q : bm_O → bm_S → Prop} {v0 : bm_V} {ι : bm_S}
  (h : Q (.inl (some (bi 16))) ι) :
  bW sc 147 151 [v0] [] ι Q := bm_snd 147 [151, 157, 160, 163] 2 h
set_option maxRecDepth 100000 in
theorem e_X_firstOfSign_157 {sc : bm_Sc} {Q : bm_O → bm_S → Prop} {v0 : bm_V} {ι : bm_S}
  (h : Q (.inl (some (bi 24))) ι) :
  bW sc 147 157 [v0] [] ι Q := bm_snd 147 [151, 157, 160, 163] 2 h
set_option maxRecDepth 100000 in
theorem e_X_firstOfSign_160 {sc : bm_Sc} {Q : bm_O → bm_S → Prop} {v0 : bm_V} {ι : bm_S}
  (h : Q (.inl (some (bi 28))) ι) :
  bW sc 147 160 [v0] [] ι Q := bm_snd 147 [151, 157, 160, 163] 2 h
set_option maxRecDepth 100000 in
theorem e_X_firstOfSign_163 {sc : bm_Sc} {Q : bm_O → bm_S → Prop} {v0 : bm_V} {ι : bm_S}
  (h : Q (.inl (some (bi 32))) ι) :
  bW sc 147 163 [v0] [] ι Q := bm_snd 147 [151, 157, 160, 163] 2 h
-- X_secondOf
set_option maxRecDepth 100000 in
theorem e_X_secondOf_0 {sc : bm_Sc} {Q : bm_O → bm_S → Prop} {x0 : Int} {ι : bm_S}
  (h : (if x0 < (32 : Int) then
      bW sc 148 19 [bi x0] [] ι Q
    else
      (if x0 < (127 : Int) then
        bW sc 148 21 [bi x0] [] ι Q
      else
        (if (192 : Int) ≤ x0 then
          bW sc 148 21 [bi x0] [] ι Q
        else
          bW sc 148 19 [bi x0] [] ι Q)))) :
  bC sc 148 [bi x0] ι Q := bm_snd 148 [19, 21, 40] 10 h
set_option maxRecDepth 100000 in
theorem e_X_secondOf_19 {sc : bm_Sc} {Q : bm_O → bm_S → Prop} {v0 : bm_V} {ι : bm_S}
  (h : Q (.inl (some (bi 0))) ι) :
  bW sc 148 19 [v0] [] ι Q := bm_snd 148 [19, 21, 40] 2 h
set_option maxRecDepth 100000 in
theorem e_X_secondOf_21 {sc : bm_Sc} {Q : bm_O → bm_S → Prop} {x0 : Int} {ι : bm_S}
  (h : (if (192 : Int) ≤ x0 then
      Q (.inl (some (bi 2))) ι
    else
      (if x0 < (48 : Int) then
        bW sc 148 40 [bi x0] [] ι Q
      else
        (if x0 ≤ (57 : Int) then
          Q (.inl (some (bi 2))) ι
        else
          bW sc 148 40 [bi x0] [] ι Q)))) :
  bW sc 148 21 [bi x0] [] ι Q := bm_snd 148 [19, 21, 40] 11 h
set_option maxRecDepth 100000 in
theorem e_X_secondOf_40 {sc : bm_Sc} {Q : bm_O → bm_S → Prop} {x0 : Int} {ι : bm_S}
  (h : (if x0 < (65 : Int) then
      (if x0 < (97 : Int) then
        Q (.inl (some (bi 1))) ι
      else
        (if (122 : Int) < x0 then
          Q (.inl (some (bi 1))) ι
        else
          Q (.inl (some (bi 3))) ι))
    else
      (if (90 : Int) < x0 then
        (if x0 < (97 : Int) then
          Q (.inl (some (bi 1))) ι
        else
          (if (122 : Int) < x0 then
            Q (.inl (some (bi 1))) ι
          else
            Q (.inl (some (bi 3))) ι))
      else
        Q (.inl (some (bi 2))) ι))) :
  bW sc 148 40 [bi x0] [] ι Q := bm_snd 148 [19, 21, 40] 15 h
-- X_sizeOf
set_option maxRecDepth 100000 in
theorem e_X_sizeOf_0 {sc : bm_Sc} {Q : bm_O → bm_S → Prop} {x0 : Int} {ι : bm_S}
  (h : (if (64 : Int) ≤ x0 then
      (if (192 : Int) ≤ x0 then
        (if (240 : Int) ≤ x0 then
          (if (255 : Int) ≤ x0 then
            Q (.inl (some (bi 7))) ι
          else
            Q (.inl (some (bi 6))) ι)
        else
          Q (.inl (some (bi 5))) ι)
      else
        (if (128 : Int) ≤ x0 then
          Q (.inl (some (bi 4))) ι
        else
          Q (.inl (some (bi 3))) ι))
    else
      (if x0 = (0 : Int) then
        Q (.inl (some (bi 0))) ι
      else
        (if (16 : Int) ≤ x0 then
          Q (.inl (some (bi 2))) ι
        else
          Q (.inl (some (bi 1))) ι)))) :
  bC sc 149 [bi x0] ι Q := bm_snd 149 [] 15 h
