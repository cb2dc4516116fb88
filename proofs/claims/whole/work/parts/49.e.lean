set_option maxRecDepth 100000 in
theorem e_M_writeCode_213 {sc : bm_Sc} {Q : bm_O → bm_S → Prop} {v1 : bm_V} {v2 : bm_V} {v3 : bm_V} {v4 : bm_V} {v5 : bm_V} {x6 : Int} {v7 : bm_V} {ι : bm_S}
  (h : (if ι 13 0 50 ≤ x6 then
      Q (.inl none) ι
    else
      (0 ≤ x6 ∧ x6 < (1024 : Int)) ∧
      bC sc 236 [br 13 0, bi 17910, bi (ι 94 0 x6)] ι (bk0 (fun ι1 => 
        (0 ≤ x6 ∧ x6 < (1024 : Int)) ∧
        (if ι1 94 0 x6 = (17 : Int) then
          (0 ≤ x6 ∧ x6 < (1024 : Int)) ∧
          (bm_rg (ι1 95 0 x6 - 3)) ∧
          bC sc 234 [br 13 0, bi (ι1 95 0 x6 - 3), bi 3] ι1 (bk0 (fun ι2 => 
            (bm_rg (x6 + 1)) ∧
            bW sc 244 213 [br 13 0, v1, v2, v3, v4, v5, bi (x6 + 1), v7] [] ι2 Q) (bq Q))
        else
          (bm_rg (x6 + 1)) ∧
          bW sc 244 213 [br 13 0, v1, v2, v3, v4, v5, bi (x6 + 1), v7] [] ι1 Q)) (bq Q)))) :
  bW sc 244 213 [br 13 0, v1, v2, v3, v4, v5, bi x6, v7] [] ι Q := bm_snd 244 [43, 67, 149, 213] 29 h
-- M_findCopy
set_option maxRecDepth 100000 in
theorem e_M_findCopy_0 {sc : bm_Sc} {Q : bm_O → bm_S → Prop} {x1 : Int} {ι : bm_S}
  (h : (0 ≤ x1 ∧ x1 < (2001 : Int)) ∧
    bW sc 245 9 [br 13 0, bi x1, bi 1, bu] [] (up ι 96 0 x1 0) Q) :
  bC sc 245 [br 13 0, bi x1] ι Q := bm_snd 245 [9, 28] 8 h
set_option maxRecDepth 100000 in
theorem e_M_findCopy_9 {sc : bm_Sc} {Q : bm_O → bm_S → Prop} {x1 : Int} {x2 : Int} {v3 : bm_V} {ι : bm_S}
  (h : (if x1 < x2 then
      Q (.inl none) ι
    else
      (0 ≤ x1 ∧ x1 < (2001 : Int)) ∧
      (if (200 : Int) ≤ ι 96 0 x1 then
        Q (.inl none) ι
      else
        bW sc 245 28 [br 13 0, bi x1, bi x2, bi 0] [] ι Q))) :
  bW sc 245 9 [br 13 0, bi x1, bi x2, v3] [] ι Q := bm_snd 245 [9, 28] 12 h
set_option maxRecDepth 100000 in
theorem e_M_findCopy_28 {sc : bm_Sc} {Q : bm_O → bm_S → Prop} {x1 : Int} {x2 : Int} {x3 : Int} {ι : bm_S}
  (h : (if (200 : Int) ≤ x3 then
      (if x3 < (4 : Int) then
        (bm_rg (x2 + 1)) ∧
        bW sc 245 9 [br 13 0, bi x1, bi (x2 + 1), bi x3] [] ι Q
      else
        (0 ≤ x1 ∧ x1 < (2001 : Int)) ∧
        (if x3 ≤ ι 96 0 x1 then
          (bm_rg (x2 + 1)) ∧
          bW sc 245 9 [br 13 0, bi x1, bi (x2 + 1), bi x3] [] ι Q
        else
          (0 ≤ x1 ∧ x1 < (2001 : Int)) ∧
          (0 ≤ x1 ∧ x1 < (2001 : Int)) ∧
          (bm_rg (x2 + 1)) ∧
          bW sc 245 9 [br 13 0, bi x1, bi (x2 + 1), bi x3] [] (up (up ι 96 0 x1 x3) 97 0 x1 x2) Q))
    else
      (bm_rg (x1 + x3)) ∧
      (if ι 13 0 59 ≤ x1 + x3 then
        (if x3 < (4 : Int) then
          (bm_rg (x2 + 1)) ∧
          bW sc 245 9 [br 13 0, bi x1, bi (x2 + 1), bi x3] [] ι Q
        else
          (0 ≤ x1 ∧ x1 < (2001 : Int)) ∧
          (if x3 ≤ ι 96 0 x1 then
            (bm_rg (x2 + 1)) ∧
            bW sc 245 9 [br 13 0, bi x1, bi (x2 + 1), bi x3] [] ι Q
          else
            (0 ≤ x1 ∧ x1 < (2001 : Int)) ∧
            (0 ≤ x1 ∧ x1 < (2001 : Int)) ∧
            (bm_rg (x2 + 1)) ∧
            bW sc 245 9 [br 13 0, bi x1, bi (x2 + 1), bi x3] [] (up (up ι 96 0 x1 x3) 97 0 x1 x2) Q))
      else
        (bm_rg (x1 + x3)) ∧
        (0 ≤ x1 + x3 ∧ x1 + x3 < (2440 : Int)) ∧
        (bm_rg (x1 + x3)) ∧
        (bm_rg (x1 + x3 - x2)) ∧
        (0 ≤ x1 + x3 - x2 ∧ x1 + x3 - x2 < (2440 : Int)) ∧
        (if ι 74 0 (x1 + x3) = ι 74 0 (x1 + x3 - x2) then
          (bm_rg (x3 + 1)) ∧
          bW sc 245 28 [br 13 0, bi x1, bi x2, bi (x3 + 1)] [] ι Q
        else
          (if x3 < (4 : Int) then
            (bm_rg (x2 + 1)) ∧
            bW sc 245 9 [br 13 0, bi x1, bi (x2 + 1), bi x3] [] ι Q
          else
            (0 ≤ x1 ∧ x1 < (2001 : Int)) ∧
            (if x3 ≤ ι 96 0 x1 then
              (bm_rg (x2 + 1)) ∧
              bW sc 245 9 [br 13 0, bi x1, bi (x2 + 1), bi x3] [] ι Q
            else
              (0 ≤ x1 ∧ x1 < (2001 : Int)) ∧
              (0 ≤ x1 ∧ x1 < (2001 : Int)) ∧
              (bm_rg (x2 + 1)) ∧
              bW sc 245 9 [br 13 0, bi x1, bi (x2 + 1), bi x3] [] (up (up ι 96 0 x1 x3) 97 0 x1 x2) Q)))))) :
  bW sc 245 28 [br 13 0, bi x1, bi x2, bi x3] [] ι Q := bm_snd 245 [9, 28] 46 h
-- M_findWord
set_option maxRecDepth 100000 in
theorem e_M_findWord_0 {sc : bm_Sc} {Q : bm_O → bm_S → Prop} {x1 : Int} {ι : bm_S}
  (h : (0 ≤ x1 ∧ x1 < (2001 : Int)) ∧
    bW sc 246 9 [br 13 0, bi x1, bi 4, bu, bu, bu, bu] [] (up ι 98 0 x1 0) Q) :
  bC sc 246 [br 13 0, bi x1] ι Q := bm_snd 246 [9, 17, 30, 89] 8 h
set_option maxRecDepth 100000 in
theorem e_M_findWord_9 {sc : bm_Sc} {Q : bm_O → bm_S → Prop} {x1 : Int} {x2 : Int} {v3 : bm_V} {v4 : bm_V} {v5 : bm_V} {v6 : bm_V} {ι : bm_S}
  (h : (if (10 : Int) < x2 then
      Q (.inl none) ι
    else
      bW sc 246 17 [br 13 0, bi x1, bi x2, bi 0, v4, v5, v6] [] ι Q)) :
  bW sc 246 9 [br 13 0, bi x1, bi x2, v3, v4, v5, v6] [] ι Q := bm_snd 246 [9, 17, 30, 89] 6 h
set_option maxRecDepth 100000 in
theorem e_M_findWord_17 {sc : bm_Sc} {Q : bm_O → bm_S → Prop} {x1 : Int} {x2 : Int} {x3 : Int} {v4 : bm_V} {v5 : bm_V} {v6 : bm_V} {ι : bm_S}
  (h : (0 ≤ x2 ∧ x2 < (11 : Int)) ∧
    (if ι 69 0 x2 ≤ x3 then
      (bm_rg (x2 + 1)) ∧
      bW sc 246 9 [br 13 0, bi x1, bi (x2 + 1), bi x3, v4, v5, v6] [] ι Q
    else
      bW sc 246 30 [br 13 0, bi x1, bi x2, bi x3, bi 0, v5, v6] [] ι Q)) :
  bW sc 246 17 [br 13 0, bi x1, bi x2, bi x3, v4, v5, v6] [] ι Q := bm_snd 246 [9, 17, 30, 89] 9 h
set_option maxRecDepth 100000 in
theorem e_M_findWord_30 {sc : bm_Sc} {Q : bm_O → bm_S → Prop} {x1 : Int} {x2 : Int} {x3 : Int} {x4 : Int} {v5 : bm_V} {v6 : bm_V} {ι : bm_S}
  (h : (if (24 : Int) ≤ x4 then
      (bm_rg (x3 + 1)) ∧
      bW sc 246 17 [br 13 0, bi x1, bi x2, bi (x3 + 1), bi x4, v5, v6] [] ι Q
    else
      bC sc 168 [br 13 0, bi x2, bi x3, bi x4] ι (bk0 (fun ι1 => 
        (if ι1 13 0 10 < (4 : Int) then
          bW sc 246 89 [br 13 0, bi x1, bi x2, bi x3, bi x4, bi 0, bi 0] [] ι1 Q
        else
          (0 ≤ x1 ∧ x1 < (2001 : Int)) ∧
          (if ι1 13 0 10 ≤ ι1 98 0 x1 then
            bW sc 246 89 [br 13 0, bi x1, bi x2, bi x3, bi x4, bi 0, bi 0] [] ι1 Q
          else
            (bm_rg (x1 + ι1 13 0 10)) ∧
            (if ι1 13 0 59 < x1 + ι1 13 0 10 then
              bW sc 246 89 [br 13 0, bi x1, bi x2, bi x3, bi x4, bi 0, bi 0] [] ι1 Q
            else
              bW sc 246 89 [br 13 0, bi x1, bi x2, bi x3, bi x4, bi 1, bi 0] [] ι1 Q)))) (bq Q)))) :
  bW sc 246 30 [br 13 0, bi x1, bi x2, bi x3, bi x4, v5, v6] [] ι Q := bm_snd 246 [9, 17, 30, 89] 32 h
set_option maxRecDepth 100000 in
theorem e_M_findWord_89 {sc : bm_Sc} {Q : bm_O → bm_S → Prop} {x1 : Int} {x2 : Int} {x3 : Int} {x4 : Int} {x5 : Int} {x6 : Int} {ι : bm_S}
  (h : (if ι 13 0 10 ≤ x6 then
      (if x5 = (0 : Int) then
        (bm_rg (x4 + 1)) ∧
        bW sc 246 30 [br 13 0, bi x1, bi x2, bi x3, bi (x4 + 1), bi x5, bi x6] [] ι Q
      else
        (0 ≤ x1 ∧ x1 < (2001 : Int)) ∧
        (0 ≤ x1 ∧ x1 < (2001 : Int)) ∧
        (0 ≤ x1 ∧ x1 < (2001 : Int)) ∧
        (0 ≤ x1 ∧ x1 < (2001 : Int)) ∧
        (bm_rg (x4 + 1)) ∧
        bW sc 246 30 [br 13 0, bi x1, bi x2, bi x3, bi (x4 + 1), bi x5, bi x6] [] (up (up (up (up ι 98 0 x1 (ι 13 0 10)) 99 0 x1 x2) 100 0 x1 x3) 101 0 x1 x4) Q)
    else
      (if x5 = (0 : Int) then
        (if x5 = (0 : Int) then
          (bm_rg (x4 + 1)) ∧
          bW sc 246 30 [br 13 0, bi x1, bi x2, bi x3, bi (x4 + 1), bi x5, bi x6] [] ι Q
        else
          (0 ≤ x1 ∧ x1 < (2001 : Int)) ∧
          (0 ≤ x1 ∧ x1 < (2001 : Int)) ∧
          (0 ≤ x1 ∧ x1 < (2001 : Int)) ∧
          (0 ≤ x1 ∧ x1 < (2001 : Int)) ∧
          (bm_rg (x4 + 1)) ∧
          bW sc 246 30 [br 13 0, bi x1, bi x2, bi x3, bi (x4 + 1), bi x5, bi x6] [] (up (up (up (up ι 98 0 x1 (ι 13 0 10)) 99 0 x1 x2) 100 0 x1 x3) 101 0 x1 x4) Q)
      else
        (0 ≤ x6 ∧ x6 < (20 : Int)) ∧
        (bm_rg (x1 + x6)) ∧
        (0 ≤ x1 + x6 ∧ x1 + x6 < (2440 : Int)) ∧
        (if ι 70 0 x6 = ι 74 0 (x1 + x6) then
          (bm_rg (x6 + 1)) ∧
          bW sc 246 89 [br 13 0, bi x1, bi x2, bi x3, bi x4, bi 1, bi (x6 + 1)] [] ι Q
        else
          (bm_rg (x6 + 1)) ∧
          bW sc 246 89 [br 13 0, bi x1, bi x2, bi x3, bi x4, bi 0, bi (x6 + 1)] [] ι Q)))) :
  bW sc 246 89 [br 13 0, bi x1, bi x2, bi x3, bi x4, bi x5, bi x6] [] ι Q := bm_snd 246 [9, 17, 30, 89] 32 h
-- M_madeBy
set_option maxRecDepth 100000 in
theorem e_M_madeBy_0 {sc : bm_Sc} {Q : bm_O → bm_S → Prop} {x1 : Int} {ι : bm_S}
  (h : (0 ≤ x1 ∧ x1 < (2001 : Int)) ∧
    (if ι 102 0 x1 = (1 : Int) then
      (0 ≤ x1 ∧ x1 < (2001 : Int)) ∧
      Q (.inl (some (bi (ι 96 0 x1)))) ι
    else
      (0 ≤ x1 ∧ x1 < (2001 : Int)) ∧
      (if ι 102 0 x1 = (2 : Int) then
        (0 ≤ x1 ∧ x1 < (2001 : Int)) ∧
        Q (.inl (some (bi (ι 98 0 x1)))) ι
      else
        Q (.inl (some (bi 1))) ι))) :
  bC sc 247 [br 13 0, bi x1] ι Q := bm_snd 247 [] 18 h
-- M_findWays
set_option maxRecDepth 100000 in
theorem e_M_findWays_0 {sc : bm_Sc} {Q : bm_O → bm_S → Prop} {x1 : Int} {ι : bm_S}
  (h : (0 ≤ ι 13 0 59 ∧ ι 13 0 59 < (2001 : Int)) ∧
    (bm_rg (ι 13 0 59 - 1)) ∧
    bW sc 248 17 [br 13 0, bi x1, bi (ι 13 0 59 - 1), bu, bu, bu, bu, bu] [] (up ι 103 0 (ι 13 0 59) 0) Q) :
  bC sc 248 [br 13 0, bi x1] ι Q := bm_snd 248 [17, 219] 12 h
set_option maxRecDepth 100000 in
theorem e_M_findWays_17 {sc : bm_Sc} {Q : bm_O → bm_S → Prop} {x1 : Int} {x2 : Int} {v3 : bm_V} {v4 : bm_V} {v5 : bm_V} {v6 : bm_V} {v7 : bm_V} {ι : bm_S}
  (h : (if x2 < (0 : Int) then
      Q (.inl none) ι
    else
      bC sc 245 [br 13 0, bi x2] ι (bk0 (fun ι1 => 
        bC sc 246 [br 13 0, bi x2] ι1 (bk0 (fun ι2 => 
          (0 ≤ x2 ∧ x2 < (2001 : Int)) ∧
          (0 ≤ x2 ∧ x2 < (2001 : Int)) ∧
          (if x1 = (1 : Int) then
            (if ι2 96 0 x2 = (0 : Int) then
              (if ι2 98 0 x2 = (0 : Int) then
                (0 ≤ x2 ∧ x2 < (2001 : Int)) ∧
                bW sc 248 219 [br 13 0, bi x1, bi x2, bi (ι2 96 0 x2), bi (ι2 98 0 x2), v5, v6, v7] [] (up ι2 102 0 x2 0) Q
              else
                (if ι2 96 0 x2 < ι2 98 0 x2 then
                  (0 ≤ x2 ∧ x2 < (2001 : Int)) ∧
                  bW sc 248 219 [br 13 0, bi x1, bi x2, bi (ι2 96 0 x2), bi (ι2 98 0 x2), v5, v6, v7] [] (up ι2 102 0 x2 2) Q
                else
                  (0 ≤ x2 ∧ x2 < (2001 : Int)) ∧
                  bW sc 248 219 [br 13 0, bi x1, bi x2, bi (ι2 96 0 x2), bi (ι2 98 0 x2), v5, v6, v7] [] (up ι2 102 0 x2 1) Q))
            else
              (if ι2 96 0 x2 < ι2 98 0 x2 then
                (0 ≤ x2 ∧ x2 < (2001 : Int)) ∧
                bW sc 248 219 [br 13 0, bi x1, bi x2, bi (ι2 96 0 x2), bi (ι2 98 0 x2), v5, v6, v7] [] (up ι2 102 0 x2 2) Q
              else
                (0 ≤ x2 ∧ x2 < (2001 : Int)) ∧
                bW sc 248 219 [br 13 0, bi x1, bi x2, bi (ι2 96 0 x2), bi (ι2 98 0 x2), v5, v6, v7] [] (up ι2 102 0 x2 1) Q))
          else
            (if ι2 96 0 x2 ≤ (0 : Int) then
              (if ι2 98 0 x2 ≤ (0 : Int) then
                (bm_rg (x2 + 1)) ∧
                (0 ≤ x2 + 1 ∧ x2 + 1 < (2001 : Int)) ∧
                (bm_rg (9 + ι2 103 0 (x2 + 1))) ∧
                (if 9 + ι2 103 0 (x2 + 1) < (1000000 : Int) then
                  (if 9 + ι2 103 0 (x2 + 1) < (1000000 : Int) then
                    (0 ≤ x2 ∧ x2 < (2001 : Int)) ∧
                    (0 ≤ x2 ∧ x2 < (2001 : Int)) ∧
                    (if (up ι2 102 0 x2 0) 102 0 x2 = (1 : Int) then
                      (0 ≤ x2 ∧ x2 < (2001 : Int)) ∧
                      bW sc 248 219 [br 13 0, bi x1, bi x2, bi (ι2 96 0 x2), bi (ι2 98 0 x2), bi 1000000, bi 1000000, bi (9 + ι2 103 0 (x2 + 1))] [] (up (up ι2 102 0 x2 0) 103 0 x2 1000000) Q
                    else
                      (0 ≤ x2 ∧ x2 < (2001 : Int)) ∧
                      (if (up ι2 102 0 x2 0) 102 0 x2 = (2 : Int) then
                        (0 ≤ x2 ∧ x2 < (2001 : Int)) ∧
                        bW sc 248 219 [br 13 0, bi x1, bi x2, bi (ι2 96 0 x2), bi (ι2 98 0 x2), bi 1000000, bi 1000000, bi (9 + ι2 103 0 (x2 + 1))] [] (up (up ι2 102 0 x2 0) 103 0 x2 1000000) Q
                      else
                        (0 ≤ x2 ∧ x2 < (2001 : Int)) ∧
                        bW sc 248 219 [br 13 0, bi x1, bi x2, bi (ι2 96 0 x2), bi (ι2 98 0 x2), bi 1000000, bi 1000000, bi (9 + ι2 103 0 (x2 + 1))] [] (up (up ι2 102 0 x2 0) 103 0 x2 (9 + ι2 103 0 (x2 + 1))) Q))
                  else
                    (0 ≤ x2 ∧ x2 < (2001 : Int)) ∧
                    (0 ≤ x2 ∧ x2 < (2001 : Int)) ∧
                    (if (up ι2 102 0 x2 2) 102 0 x2 = (1 : Int) then
                      (0 ≤ x2 ∧ x2 < (2001 : Int)) ∧
                      bW sc 248 219 [br 13 0, bi x1, bi x2, bi (ι2 96 0 x2), bi (ι2 98 0 x2), bi 1000000, bi 1000000, bi (9 + ι2 103 0 (x2 + 1))] [] (up (up ι2 102 0 x2 2) 103 0 x2 1000000) Q
                    else
                      (0 ≤ x2 ∧ x2 < (2001 : Int)) ∧
                      (if (up ι2 102 0 x2 2) 102 0 x2 = (2 : Int) then
                        (0 ≤ x2 ∧ x2 < (2001 : Int)) ∧
                        bW sc 248 219 [br 13 0, bi x1, bi x2, bi (ι2 96 0 x2), bi (ι2 98 0 x2), bi 1000000, bi 1000000, bi (9 + ι2 103 0 (x2 + 1))] [] (up (up ι2 102 0 x2 2) 103 0 x2 1000000) Q
                      else
                        (0 ≤ x2 ∧ x2 < (2001 : Int)) ∧
                        bW sc 248 219 [br 13 0, bi x1, bi x2, bi (ι2 96 0 x2), bi (ι2 98 0 x2), bi 1000000, bi 1000000, bi (9 + ι2 103 0 (x2 + 1))] [] (up (up ι2 102 0 x2 2) 103 0 x2 (9 + ι2 103 0 (x2 + 1))) Q)))
                else
                  (0 ≤ x2 ∧ x2 < (2001 : Int)) ∧
                  (0 ≤ x2 ∧ x2 < (2001 : Int)) ∧
                  (if (up ι2 102 0 x2 1) 102 0 x2 = (1 : Int) then
                    (0 ≤ x2 ∧ x2 < (2001 : Int)) ∧
                    bW sc 248 219 [br 13 0, bi x1, bi x2, bi (ι2 96 0 x2), bi (ι2 98 0 x2), bi 1000000, bi 1000000, bi (9 + ι2 103 0 (x2 + 1))] [] (up (up ι2 102 0 x2 1) 103 0 x2 1000000) Q
                  else
                    (0 ≤ x2 ∧ x2 < (2001 : Int)) ∧
                    (if (up ι2 102 0 x2 1) 102 0 x2 = (2 : Int) then
                      (0 ≤ x2 ∧ x2 < (2001 : Int)) ∧
                      bW sc 248 219 [br 13 0, bi x1, bi x2, bi (ι2 96 0 x2), bi (ι2 98 0 x2), bi 1000000, bi 1000000, bi (9 + ι2 103 0 (x2 + 1))] [] (up (up ι2 102 0 x2 1) 103 0 x2 1000000) Q
                    else
                      (0 ≤ x2 ∧ x2 < (2001 : Int)) ∧
                      bW sc 248 219 [br 13 0, bi x1, bi x2, bi (ι2 96 0 x2), bi (ι2 98 0 x2), bi 1000000, bi 1000000, bi (9 + ι2 103 0 (x2 + 1))] [] (up (up ι2 102 0 x2 1) 103 0 x2 (9 + ι2 103 0 (x2 + 1))) Q)))
              else
                (bm_rg (x2 + ι2 98 0 x2)) ∧
                (0 ≤ x2 + ι2 98 0 x2 ∧ x2 + ι2 98 0 x2 < (2001 : Int)) ∧
                (bm_rg (24 + ι2 103 0 (x2 + ι2 98 0 x2))) ∧
                (bm_rg (x2 + 1)) ∧
                (0 ≤ x2 + 1 ∧ x2 + 1 < (2001 : Int)) ∧
                (bm_rg (9 + ι2 103 0 (x2 + 1))) ∧
                (if 24 + ι2 103 0 (x2 + ι2 98 0 x2) < (1000000 : Int) then
                  (if 9 + ι2 103 0 (x2 + 1) < 24 + ι2 103 0 (x2 + ι2 98 0 x2) then
                    (0 ≤ x2 ∧ x2 < (2001 : Int)) ∧
                    (0 ≤ x2 ∧ x2 < (2001 : Int)) ∧
                    (if (up ι2 102 0 x2 0) 102 0 x2 = (1 : Int) then
                      (0 ≤ x2 ∧ x2 < (2001 : Int)) ∧
                      bW sc 248 219 [br 13 0, bi x1, bi x2, bi (ι2 96 0 x2), bi (ι2 98 0 x2), bi 1000000, bi (24 + ι2 103 0 (x2 + ι2 98 0 x2)), bi (9 + ι2 103 0 (x2 + 1))] [] (up (up ι2 102 0 x2 0) 103 0 x2 1000000) Q
                    else
                      (0 ≤ x2 ∧ x2 < (2001 : Int)) ∧
                      (if (up ι2 102 0 x2 0) 102 0 x2 = (2 : Int) then
                        (0 ≤ x2 ∧ x2 < (2001 : Int)) ∧
                        bW sc 248 219 [br 13 0, bi x1, bi x2, bi (ι2 96 0 x2), bi (ι2 98 0 x2), bi 1000000, bi (24 + ι2 103 0 (x2 + ι2 98 0 x2)), bi (9 + ι2 103 0 (x2 + 1))] [] (up (up ι2 102 0 x2 0) 103 0 x2 (24 + ι2 103 0 (x2 + ι2 98 0 x2))) Q
                      else
                        (0 ≤ x2 ∧ x2 < (2001 : Int)) ∧
                        bW sc 248 219 [br 13 0, bi x1, bi x2, bi (ι2 96 0 x2), bi (ι2 98 0 x2), bi 1000000, bi (24 + ι2 103 0 (x2 + ι2 98 0 x2)), bi (9 + ι2 103 0 (x2 + 1))] [] (up (up ι2 102 0 x2 0) 103 0 x2 (9 + ι2 103 0 (x2 + 1))) Q))
                  else
                    (0 ≤ x2 ∧ x2 < (2001 : Int)) ∧
                    (0 ≤ x2 ∧ x2 < (2001 : Int)) ∧
                    (if (up ι2 102 0 x2 2) 102 0 x2 = (1 : Int) then
                      (0 ≤ x2 ∧ x2 < (2001 : Int)) ∧
                      bW sc 248 219 [br 13 0, bi x1, bi x2, bi (ι2 96 0 x2), bi (ι2 98 0 x2), bi 1000000, bi (24 + ι2 103 0 (x2 + ι2 98 0 x2)), bi (9 + ι2 103 0 (x2 + 1))] [] (up (up ι2 102 0 x2 2) 103 0 x2 1000000) Q
                    else
                      (0 ≤ x2 ∧ x2 < (2001 : Int)) ∧
                      (if (up ι2 102 0 x2 2) 102 0 x2 = (2 : Int) then
                        (0 ≤ x2 ∧ x2 < (2001 : Int)) ∧
                        bW sc 248 219 [br 13 0, bi x1, bi x2, bi (ι2 96 0 x2), bi (ι2 98 0 x2), bi 1000000, bi (24 + ι2 103 0 (x2 + ι2 98 0 x2)), bi (9 + ι2 103 0 (x2 + 1))] [] (up (up ι2 102 0 x2 2) 103 0 x2 (24 + ι2 103 0 (x2 + ι2 98 0 x2))) Q
                      else
                        (0 ≤ x2 ∧ x2 < (2001 : Int)) ∧
                        bW sc 248 219 [br 13 0, bi x1, bi x2, bi (ι2 96 0 x2), bi (ι2 98 0 x2), bi 1000000, bi (24 + ι2 103 0 (x2 + ι2 98 0 x2)), bi (9 + ι2 103 0 (x2 + 1))] [] (up (up ι2 102 0 x2 2) 103 0 x2 (9 + ι2 103 0 (x2 + 1))) Q)))
                else
                  (if 9 + ι2 103 0 (x2 + 1) < (1000000 : Int) then
                    (if 9 + ι2 103 0 (x2 + 1) < 24 + ι2 103 0 (x2 + ι2 98 0 x2) then
                      (0 ≤ x2 ∧ x2 < (2001 : Int)) ∧
                      (0 ≤ x2 ∧ x2 < (2001 : Int)) ∧
                      (if (up ι2 102 0 x2 0) 102 0 x2 = (1 : Int) then
                        (0 ≤ x2 ∧ x2 < (2001 : Int)) ∧
                        bW sc 248 219 [br 13 0, bi x1, bi x2, bi (ι2 96 0 x2), bi (ι2 98 0 x2), bi 1000000, bi (24 + ι2 103 0 (x2 + ι2 98 0 x2)), bi (9 + ι2 103 0 (x2 + 1))] [] (up (up ι2 102 0 x2 0) 103 0 x2 1000000) Q
                      else
                        (0 ≤ x2 ∧ x2 < (2001 : Int)) ∧
                        (if (up ι2 102 0 x2 0) 102 0 x2 = (2 : Int) then
                          (0 ≤ x2 ∧ x2 < (2001 : Int)) ∧
                          bW sc 248 219 [br 13 0, bi x1, bi x2, bi (ι2 96 0 x2), bi (ι2 98 0 x2), bi 1000000, bi (24 + ι2 103 0 (x2 + ι2 98 0 x2)), bi (9 + ι2 103 0 (x2 + 1))] [] (up (up ι2 102 0 x2 0) 103 0 x2 (24 + ι2 103 0 (x2 + ι2 98 0 x2))) Q
                        else
                          (0 ≤ x2 ∧ x2 < (2001 : Int)) ∧
                          bW sc 248 219 [br 13 0, bi x1, bi x2, bi (ι2 96 0 x2), bi (ι2 98 0 x2), bi 1000000, bi (24 + ι2 103 0 (x2 + ι2 98 0 x2)), bi (9 + ι2 103 0 (x2 + 1))] [] (up (up ι2 102 0 x2 0) 103 0 x2 (9 + ι2 103 0 (x2 + 1))) Q))
                    else
                      (0 ≤ x2 ∧ x2 < (2001 : Int)) ∧
                      (0 ≤ x2 ∧ x2 < (2001 : Int)) ∧
                      (if (up ι2 102 0 x2 2) 102 0 x2 = (1 : Int) then
                        (0 ≤ x2 ∧ x2 < (2001 : Int)) ∧
                        bW sc 248 219 [br 13 0, bi x1, bi x2, bi (ι2 96 0 x2), bi (ι2 98 0 x2), bi 1000000, bi (24 + ι2 103 0 (x2 + ι2 98 0 x2)), bi (9 + ι2 103 0 (x2 + 1))] [] (up (up ι2 102 0 x2 2) 103 0 x2 1000000) Q
                      else
                        (0 ≤ x2 ∧ x2 < (2001 : Int)) ∧
                        (if (up ι2 102 0 x2 2) 102 0 x2 = (2 : Int) then
                          (0 ≤ x2 ∧ x2 < (2001 : Int)) ∧
                          bW sc 248 219 [br 13 0, bi x1, bi x2, bi (ι2 96 0 x2), bi (ι2 98 0 x2), bi 1000000, bi (24 + ι2 103 0 (x2 + ι2 98 0 x2)), bi (9 + ι2 103 0 (x2 + 1))] [] (up (up ι2 102 0 x2 2) 103 0 x2 (24 + ι2 103 0 (x2 + ι2 98 0 x2))) Q
                        else
                          (0 ≤ x2 ∧ x2 < (2001 : Int)) ∧
                          bW sc 248 219 [br 13 0, bi x1, bi x2, bi (ι2 96 0 x2), bi (ι2 98 0 x2), bi 1000000, bi (24 + ι2 103 0 (x2 + ι2 98 0 x2)), bi (9 + ι2 103 0 (x2 + 1))] [] (up (up ι2 102 0 x2 2) 103 0 x2 (9 + ι2 103 0 (x2 + 1))) Q)))
                  else
                    (0 ≤ x2 ∧ x2 < (2001 : Int)) ∧
                    (0 ≤ x2 ∧ x2 < (2001 : Int)) ∧
                    (if (up ι2 102 0 x2 1) 102 0 x2 = (1 : Int) then
                      (0 ≤ x2 ∧ x2 < (2001 : Int)) ∧
                      bW sc 248 219 [br 13 0, bi x1, bi x2, bi (ι2 96 0 x2), bi (ι2 98 0 x2), bi 1000000, bi (24 + ι2 103 0 (x2 + ι2 98 0 x2)), bi (9 + ι2 103 0 (x2 + 1))] [] (up (up ι2 102 0 x2 1) 103 0 x2 1000000) Q
                    else
                      (0 ≤ x2 ∧ x2 < (2001 : Int)) ∧
                      (if (up ι2 102 0 x2 1) 102 0 x2 = (2 : Int) then
                        (0 ≤ x2 ∧ x2 < (2001 : Int)) ∧
                        bW sc 248 219 [br 13 0, bi x1, bi x2, bi (ι2 96 0 x2), bi (ι2 98 0 x2), bi 1000000, bi (24 + ι2 103 0 (x2 + ι2 98 0 x2)), bi (9 + ι2 103 0 (x2 + 1))] [] (up (up ι2 102 0 x2 1) 103 0 x2 (24 + ι2 103 0 (x2 + ι2 98 0 x2))) Q
                      else
                        (0 ≤ x2 ∧ x2 < (2001 : Int)) ∧
                        bW sc 248 219 [br 13 0, bi x1, bi x2, bi (ι2 96 0 x2), bi (ι2 98 0 x2), bi 1000000, bi (24 + ι2 103 0 (x2 + ι2 98 0 x2)), bi (9 + ι2 103 0 (x2 + 1))] [] (up (up ι2 102 0 x2 1) 103 0 x2 (9 + ι2 103 0 (x2 + 1))) Q)))))
            else
              (bm_rg (x2 + ι2 96 0 x2)) ∧
              (0 ≤ x2 + ι2 96 0 x2 ∧ x2 + ι2 96 0 x2 < (2001 : Int)) ∧
              (bm_rg (24 + ι2 103 0 (x2 + ι2 96 0 x2))) ∧
              (if ι2 98 0 x2 ≤ (0 : Int) then
                (bm_rg (x2 + 1)) ∧
                (0 ≤ x2 + 1 ∧ x2 + 1 < (2001 : Int)) ∧
                (bm_rg (9 + ι2 103 0 (x2 + 1))) ∧
                (if (1000000 : Int) < 24 + ι2 103 0 (x2 + ι2 96 0 x2) then
                  (if 9 + ι2 103 0 (x2 + 1) < (1000000 : Int) then
                    (0 ≤ x2 ∧ x2 < (2001 : Int)) ∧
                    (0 ≤ x2 ∧ x2 < (2001 : Int)) ∧
                    (if (up ι2 102 0 x2 0) 102 0 x2 = (1 : Int) then
                      (0 ≤ x2 ∧ x2 < (2001 : Int)) ∧
                      bW sc 248 219 [br 13 0, bi x1, bi x2, bi (ι2 96 0 x2), bi (ι2 98 0 x2), bi (24 + ι2 103 0 (x2 + ι2 96 0 x2)), bi 1000000, bi (9 + ι2 103 0 (x2 + 1))] [] (up (up ι2 102 0 x2 0) 103 0 x2 (24 + ι2 103 0 (x2 + ι2 96 0 x2))) Q
                    else
                      (0 ≤ x2 ∧ x2 < (2001 : Int)) ∧
                      (if (up ι2 102 0 x2 0) 102 0 x2 = (2 : Int) then
                        (0 ≤ x2 ∧ x2 < (2001 : Int)) ∧
                        bW sc 248 219 [br 13 0, bi x1, bi x2, bi (ι2 96 0 x2), bi (ι2 98 0 x2), bi (24 + ι2 103 0 (x2 + ι2 96 0 x2)), bi 1000000, bi (9 + ι2 103 0 (x2 + 1))] [] (up (up ι2 102 0 x2 0) 103 0 x2 1000000) Q
                      else
                        (0 ≤ x2 ∧ x2 < (2001 : Int)) ∧
                        bW sc 248 219 [br 13 0, bi x1, bi x2, bi (ι2 96 0 x2), bi (ι2 98 0 x2), bi (24 + ι2 103 0 (x2 + ι2 96 0 x2)), bi 1000000, bi (9 + ι2 103 0 (x2 + 1))] [] (up (up ι2 102 0 x2 0) 103 0 x2 (9 + ι2 103 0 (x2 + 1))) Q))
                  else
                    (0 ≤ x2 ∧ x2 < (2001 : Int)) ∧
                    (0 ≤ x2 ∧ x2 < (2001 : Int)) ∧
                    (if (up ι2 102 0 x2 2) 102 0 x2 = (1 : Int) then
                      (0 ≤ x2 ∧ x2 < (2001 : Int)) ∧
                      bW sc 248 219 [br 13 0, bi x1, bi x2, bi (ι2 96 0 x2), bi (ι2 98 0 x2), bi (24 + ι2 103 0 (x2 + ι2 96 0 x2)), bi 1000000, bi (9 + ι2 103 0 (x2 + 1))] [] (up (up ι2 102 0 x2 2) 103 0 x2 (24 + ι2 103 0 (x2 + ι2 96 0 x2))) Q
                    else
                      (0 ≤ x2 ∧ x2 < (2001 : Int)) ∧
                      (if (up ι2 102 0 x2 2) 102 0 x2 = (2 : Int) then
                        (0 ≤ x2 ∧ x2 < (2001 : Int)) ∧
                        bW sc 248 219 [br 13 0, bi x1, bi x2, bi (ι2 96 0 x2), bi (ι2 98 0 x2), bi (24 + ι2 103 0 (x2 + ι2 96 0 x2)), bi 1000000, bi (9 + ι2 103 0 (x2 + 1))] [] (up (up ι2 102 0 x2 2) 103 0 x2 1000000) Q
                      else
                        (0 ≤ x2 ∧ x2 < (2001 : Int)) ∧
                        bW sc 248 219 [br 13 0, bi x1, bi x2, bi (ι2 96 0 x2), bi (ι2 98 0 x2), bi (24 + ι2 103 0 (x2 + ι2 96 0 x2)), bi 1000000, bi (9 + ι2 103 0 (x2 + 1))] [] (up (up ι2 102 0 x2 2) 103 0 x2 (9 + ι2 103 0 (x2 + 1))) Q)))
                else
                  (if 9 + ι2 103 0 (x2 + 1) < 24 + ι2 103 0 (x2 + ι2 96 0 x2) then
                    (if 9 + ι2 103 0 (x2 + 1) < (1000000 : Int) then
                      (0 ≤ x2 ∧ x2 < (2001 : Int)) ∧
                      (0 ≤ x2 ∧ x2 < (2001 : Int)) ∧
                      (if (up ι2 102 0 x2 0) 102 0 x2 = (1 : Int) then
                        (0 ≤ x2 ∧ x2 < (2001 : Int)) ∧
                        bW sc 248 219 [br 13 0, bi x1, bi x2, bi (ι2 96 0 x2), bi (ι2 98 0 x2), bi (24 + ι2 103 0 (x2 + ι2 96 0 x2)), bi 1000000, bi (9 + ι2 103 0 (x2 + 1))] [] (up (up ι2 102 0 x2 0) 103 0 x2 (24 + ι2 103 0 (x2 + ι2 96 0 x2))) Q
                      else
                        (0 ≤ x2 ∧ x2 < (2001 : Int)) ∧
                        (if (up ι2 102 0 x2 0) 102 0 x2 = (2 : Int) then
                          (0 ≤ x2 ∧ x2 < (2001 : Int)) ∧
                          bW sc 248 219 [br 13 0, bi x1, bi x2, bi (ι2 96 0 x2), bi (ι2 98 0 x2), bi (24 + ι2 103 0 (x2 + ι2 96 0 x2)), bi 1000000, bi (9 + ι2 103 0 (x2 + 1))] [] (up (up ι2 102 0 x2 0) 103 0 x2 1000000) Q
                        else
                          (0 ≤ x2 ∧ x2 < (2001 : Int)) ∧
                          bW sc 248 219 [br 13 0, bi x1, bi x2, bi (ι2 96 0 x2), bi (ι2 98 0 x2), bi (24 + ι2 103 0 (x2 + ι2 96 0 x2)), bi 1000000, bi (9 + ι2 103 0 (x2 + 1))] [] (up (up ι2 102 0 x2 0) 103 0 x2 (9 + ι2 103 0 (x2 + 1))) Q))
                    else
                      (0 ≤ x2 ∧ x2 < (2001 : Int)) ∧
                      (0 ≤ x2 ∧ x2 < (2001 : Int)) ∧
                      (if (up ι2 102 0 x2 2) 102 0 x2 = (1 : Int) then
                        (0 ≤ x2 ∧ x2 < (2001 : Int)) ∧
                        bW sc 248 219 [br 13 0, bi x1, bi x2, bi (ι2 96 0 x2), bi (ι2 98 0 x2), bi (24 + ι2 103 0 (x2 + ι2 96 0 x2)), bi 1000000, bi (9 + ι2 103 0 (x2 + 1))] [] (up (up ι2 102 0 x2 2) 103 0 x2 (24 + ι2 103 0 (x2 + ι2 96 0 x2))) Q
                      else
                        (0 ≤ x2 ∧ x2 < (2001 : Int)) ∧
                        (if (up ι2 102 0 x2 2) 102 0 x2 = (2 : Int) then
                          (0 ≤ x2 ∧ x2 < (2001 : Int)) ∧
                          bW sc 248 219 [br 13 0, bi x1, bi x2, bi (ι2 96 0 x2), bi (ι2 98 0 x2), bi (24 + ι2 103 0 (x2 + ι2 96 0 x2)), bi 1000000, bi (9 + ι2 103 0 (x2 + 1))] [] (up (up ι2 102 0 x2 2) 103 0 x2 1000000) Q
                        else
                          (0 ≤ x2 ∧ x2 < (2001 : Int)) ∧
                          bW sc 248 219 [br 13 0, bi x1, bi x2, bi (ι2 96 0 x2), bi (ι2 98 0 x2), bi (24 + ι2 103 0 (x2 + ι2 96 0 x2)), bi 1000000, bi (9 + ι2 103 0 (x2 + 1))] [] (up (up ι2 102 0 x2 2) 103 0 x2 (9 + ι2 103 0 (x2 + 1))) Q)))
                  else
                    (0 ≤ x2 ∧ x2 < (2001 : Int)) ∧
                    (0 ≤ x2 ∧ x2 < (2001 : Int)) ∧
                    (if (up ι2 102 0 x2 1) 102 0 x2 = (1 : Int) then
                      (0 ≤ x2 ∧ x2 < (2001 : Int)) ∧
                      bW sc 248 219 [br 13 0, bi x1, bi x2, bi (ι2 96 0 x2), bi (ι2 98 0 x2), bi (24 + ι2 103 0 (x2 + ι2 96 0 x2)), bi 1000000, bi (9 + ι2 103 0 (x2 + 1))] [] (up (up ι2 102 0 x2 1) 103 0 x2 (24 + ι2 103 0 (x2 + ι2 96 0 x2))) Q
                    else
                      (0 ≤ x2 ∧ x2 < (2001 : Int)) ∧
                      (if (up ι2 102 0 x2 1) 102 0 x2 = (2 : Int) then
                        (0 ≤ x2 ∧ x2 < (2001 : Int)) ∧
                        bW sc 248 219 [br 13 0, bi x1, bi x2, bi (ι2 96 0 x2), bi (ι2 98 0 x2), bi (24 + ι2 103 0 (x2 + ι2 96 0 x2)), bi 1000000, bi (9 + ι2 103 0 (x2 + 1))] [] (up (up ι2 102 0 x2 1) 103 0 x2 1000000) Q
                      else
                        (0 ≤ x2 ∧ x2 < (2001 : Int)) ∧
                        bW sc 248 219 [br 13 0, bi x1, bi x2, bi (ι2 96 0 x2), bi (ι2 98 0 x2), bi (24 + ι2 103 0 (x2 + ι2 96 0 x2)), bi 1000000, bi (9 + ι2 103 0 (x2 + 1))] [] (up (up ι2 102 0 x2 1) 103 0 x2 (9 + ι2 103 0 (x2 + 1))) Q))))
              else
                (bm_rg (x2 + ι2 98 0 x2)) ∧
                (0 ≤ x2 + ι2 98 0 x2 ∧ x2 + ι2 98 0 x2 < (2001 : Int)) ∧
                (bm_rg (24 + ι2 103 0 (x2 + ι2 98 0 x2))) ∧
                (bm_rg (x2 + 1)) ∧
                (0 ≤ x2 + 1 ∧ x2 + 1 < (2001 : Int)) ∧
                (bm_rg (9 + ι2 103 0 (x2 + 1))) ∧
                (if 24 + ι2 103 0 (x2 + ι2 98 0 x2) < 24 + ι2 103 0 (x2 + ι2 96 0 x2) then
                  (if 9 + ι2 103 0 (x2 + 1) < 24 + ι2 103 0 (x2 + ι2 98 0 x2) then
                    (0 ≤ x2 ∧ x2 < (2001 : Int)) ∧
                    (0 ≤ x2 ∧ x2 < (2001 : Int)) ∧
                    (if (up ι2 102 0 x2 0) 102 0 x2 = (1 : Int) then
                      (0 ≤ x2 ∧ x2 < (2001 : Int)) ∧
                      bW sc 248 219 [br 13 0, bi x1, bi x2, bi (ι2 96 0 x2), bi (ι2 98 0 x2), bi (24 + ι2 103 0 (x2 + ι2 96 0 x2)), bi (24 + ι2 103 0 (x2 + ι2 98 0 x2)), bi (9 + ι2 103 0 (x2 + 1))] [] (up (up ι2 102 0 x2 0) 103 0 x2 (24 + ι2 103 0 (x2 + ι2 96 0 x2))) Q
                    else
                      (0 ≤ x2 ∧ x2 < (2001 : Int)) ∧
                      (if (up ι2 102 0 x2 0) 102 0 x2 = (2 : Int) then
                        (0 ≤ x2 ∧ x2 < (2001 : Int)) ∧
                        bW sc 248 219 [br 13 0, bi x1, bi x2, bi (ι2 96 0 x2), bi (ι2 98 0 x2), bi (24 + ι2 103 0 (x2 + ι2 96 0 x2)), bi (24 + ι2 103 0 (x2 + ι2 98 0 x2)), bi (9 + ι2 103 0 (x2 + 1))] [] (up (up ι2 102 0 x2 0) 103 0 x2 (24 + ι2 103 0 (x2 + ι2 98 0 x2))) Q
                      else
                        (0 ≤ x2 ∧ x2 < (2001 : Int)) ∧
                        bW sc 248 219 [br 13 0, bi x1, bi x2, bi (ι2 96 0 x2), bi (ι2 98 0 x2), bi (24 + ι2 103 0 (x2 + ι2 96 0 x2)), bi (24 + ι2 103 0 (x2 + ι2 98 0 x2)), bi (9 + ι2 103 0 (x2 + 1))] [] (up (up ι2 102 0 x2 0) 103 0 x2 (9 + ι2 103 0 (x2 + 1))) Q))
                  else
                    (0 ≤ x2 ∧ x2 < (2001 : Int)) ∧
                    (0 ≤ x2 ∧ x2 < (2001 : Int)) ∧
                    (if (up ι2 102 0 x2 2) 102 0 x2 = (1 : Int) then
                      (0 ≤ x2 ∧ x2 < (2001 : Int)) ∧
                      bW sc 248 219 [br 13 0, bi x1, bi x2, bi (ι2 96 0 x2), bi (ι2 98 0 x2), bi (24 + ι2 103 0 (x2 + ι2 96 0 x2)), bi (24 + ι2 103 0 (x2 + ι2 98 0 x2)), bi (9 + ι2 103 0 (x2 + 1))] [] (up (up ι2 102 0 x2 2) 103 0 x2 (24 + ι2 103 0 (x2 + ι2 96 0 x2))) Q
                    else
                      (0 ≤ x2 ∧ x2 < (2001 : Int)) ∧
                      (if (up ι2 102 0 x2 2) 102 0 x2 = (2 : Int) then
                        (0 ≤ x2 ∧ x2 < (2001 : Int)) ∧
                        bW sc 248 219 [br 13 0, bi x1, bi x2, bi (ι2 96 0 x2), bi (ι2 98 0 x2), bi (24 + ι2 103 0 (x2 + ι2 96 0 x2)), bi (24 + ι2 103 0 (x2 + ι2 98 0 x2)), bi (9 + ι2 103 0 (x2 + 1))] [] (up (up ι2 102 0 x2 2) 103 0 x2 (24 + ι2 103 0 (x2 + ι2 98 0 x2))) Q
                      else
                        (0 ≤ x2 ∧ x2 < (2001 : Int)) ∧
                        bW sc 248 219 [br 13 0, bi x1, bi x2, bi (ι2 96 0 x2), bi (ι2 98 0 x2), bi (24 + ι2 103 0 (x2 + ι2 96 0 x2)), bi (24 + ι2 103 0 (x2 + ι2 98 0 x2)), bi (9 + ι2 103 0 (x2 + 1))] [] (up (up ι2 102 0 x2 2) 103 0 x2 (9 + ι2 103 0 (x2 + 1))) Q)))
                else
                  (if 9 + ι2 103 0 (x2 + 1) < 24 + ι2 103 0 (x2 + ι2 96 0 x2) then
                    (if 9 + ι2 103 0 (x2 + 1) < 24 + ι2 103 0 (x2 + ι2 98 0 x2) then
                      (0 ≤ x2 ∧ x2 < (2001 : Int)) ∧
                      (0 ≤ x2 ∧ x2 < (2001 : Int)) ∧
                      (if (up ι2 102 0 x2 0) 102 0 x2 = (1 : Int) then
                        (0 ≤ x2 ∧ x2 < (2001 : Int)) ∧
                        bW sc 248 219 [br 13 0, bi x1, bi x2, bi (ι2 96 0 x2), bi (ι2 98 0 x2), bi (24 + ι2 103 0 (x2 + ι2 96 0 x2)), bi (24 + ι2 103 0 (x2 + ι2 98 0 x2)), bi (9 + ι2 103 0 (x2 + 1))] [] (up (up ι2 102 0 x2 0) 103 0 x2 (24 + ι2 103 0 (x2 + ι2 96 0 x2))) Q
                      else
                        (0 ≤ x2 ∧ x2 < (2001 : Int)) ∧
                        (if (up ι2 102 0 x2 0) 102 0 x2 = (2 : Int) then
                          (0 ≤ x2 ∧ x2 < (2001 : Int)) ∧
                          bW sc 248 219 [br 13 0, bi x1, bi x2, bi (ι2 96 0 x2), bi (ι2 98 0 x2), bi (24 + ι2 103 0 (x2 + ι2 96 0 x2)), bi (24 + ι2 103 0 (x2 + ι2 98 0 x2)), bi (9 + ι2 103 0 (x2 + 1))] [] (up (up ι2 102 0 x2 0) 103 0 x2 (24 + ι2 103 0 (x2 + ι2 98 0 x2))) Q
                        else
                          (0 ≤ x2 ∧ x2 < (2001 : Int)) ∧
                          bW sc 248 219 [br 13 0, bi x1, bi x2, bi (ι2 96 0 x2), bi (ι2 98 0 x2), bi (24 + ι2 103 0 (x2 + ι2 96 0 x2)), bi (24 + ι2 103 0 (x2 + ι2 98 0 x2)), bi (9 + ι2 103 0 (x2 + 1))] [] (up (up ι2 102 0 x2 0) 103 0 x2 (9 + ι2 103 0 (x2 + 1))) Q))
                    else
                      (0 ≤ x2 ∧ x2 < (2001 : Int)) ∧
                      (0 ≤ x2 ∧ x2 < (2001 : Int)) ∧
                      (if (up ι2 102 0 x2 2) 102 0 x2 = (1 : Int) then
                        (0 ≤ x2 ∧ x2 < (2001 : Int)) ∧
                        bW sc 248 219 [br 13 0, bi x1, bi x2, bi (ι2 96 0 x2), bi (ι2 98 0 x2), bi (24 + ι2 103 0 (x2 + ι2 96 0 x2)), bi (24 + ι2 103 0 (x2 + ι2 98 0 x2)), bi (9 + ι2 103 0 (x2 + 1))] [] (up (up ι2 102 0 x2 2) 103 0 x2 (24 + ι2 103 0 (x2 + ι2 96 0 x2))) Q
                      else
                        (0 ≤ x2 ∧ x2 < (2001 : Int)) ∧
                        (if (up ι2 102 0 x2 2) 102 0 x2 = (2 : Int) then
                          (0 ≤ x2 ∧ x2 < (2001 : Int)) ∧
                          bW sc 248 219 [br 13 0, bi x1, bi x2, bi (ι2 96 0 x2), bi (ι2 98 0 x2), bi (24 + ι2 103 0 (x2 + ι2 96 0 x2)), bi (24 + ι2 103 0 (x2 + ι2 98 0 x2)), bi (9 + ι2 103 0 (x2 + 1))] [] (up (up ι2 102 0 x2 2) 103 0 x2 (24 + ι2 103 0 (x2 + ι2 98 0 x2))) Q
                        else
                          (0 ≤ x2 ∧ x2 < (2001 : Int)) ∧
                          bW sc 248 219 [br 13 0, bi x1, bi x2, bi (ι2 96 0 x2), bi (ι2 98 0 x2), bi (24 + ι2 103 0 (x2 + ι2 96 0 x2)), bi (24 + ι2 103 0 (x2 + ι2 98 0 x2)), bi (9 + ι2 103 0 (x2 + 1))] [] (up (up ι2 102 0 x2 2) 103 0 x2 (9 + ι2 103 0 (x2 + 1))) Q)))
                  else
                    (0 ≤ x2 ∧ x2 < (2001 : Int)) ∧
                    (0 ≤ x2 ∧ x2 < (2001 : Int)) ∧
                    (if (up ι2 102 0 x2 1) 102 0 x2 = (1 : Int) then
                      (0 ≤ x2 ∧ x2 < (2001 : Int)) ∧
                      bW sc 248 219 [br 13 0, bi x1, bi x2, bi (ι2 96 0 x2), bi (ι2 98 0 x2), bi (24 + ι2 103 0 (x2 + ι2 96 0 x2)), bi (24 + ι2 103 0 (x2 + ι2 98 0 x2)), bi (9 + ι2 103 0 (x2 + 1))] [] (up (up ι2 102 0 x2 1) 103 0 x2 (24 + ι2 103 0 (x2 + ι2 96 0 x2))) Q
                    else
                      (0 ≤ x2 ∧ x2 < (2001 : Int)) ∧
                      (if (up ι2 102 0 x2 1) 102 0 x2 = (2 : Int) then
                        (0 ≤ x2 ∧ x2 < (2001 : Int)) ∧
                        bW sc 248 219 [br 13 0, bi x1, bi x2, bi (ι2 96 0 x2), bi (ι2 98 0 x2), bi (24 + ι2 103 0 (x2 + ι2 96 0 x2)), bi (24 + ι2 103 0 (x2 + ι2 98 0 x2)), bi (9 + ι2 103 0 (x2 + 1))] [] (up (up ι2 102 0 x2 1) 103 0 x2 (24 + ι2 103 0 (x2 + ι2 98 0 x2))) Q
                      else
                        (0 ≤ x2 ∧ x2 < (2001 : Int)) ∧
                        bW sc 248 219 [br 13 0, bi x1, bi x2, bi (ι2 96 0 x2), bi (ι2 98 0 x2), bi (24 + ι2 103 0 (x2 + ι2 96 0 x2)), bi (24 + ι2 103 0 (x2 + ι2 98 0 x2)), bi (9 + ι2 103 0 (x2 + 1))] [] (up (up ι2 102 0 x2 1) 103 0 x2 (9 + ι2 103 0 (x2 + 1))) Q)))))))) (bq Q))) (bq Q)))) :
  bW sc 248 17 [br 13 0, bi x1, bi x2, v3, v4, v5, v6, v7] [] ι Q := bm_snd 248 [17, 219] 88 h
set_option maxRecDepth 100000 in
theorem e_M_findWays_219 {sc : bm_Sc} {Q : bm_O → bm_S → Prop} {x1 : Int} {x2 : Int} {v3 : bm_V} {v4 : bm_V} {v5 : bm_V} {v6 : bm_V} {v7 : bm_V} {ι : bm_S}
  (h : (bm_rg (x2 + (-1))) ∧
    bW sc 248 17 [br 13 0, bi x1, bi (x2 + (-1)), v3, v4, v5, v6, v7] [] ι Q) :
  bW sc 248 219 [br 13 0, bi x1, bi x2, v3, v4, v5, v6, v7] [] ι Q := bm_snd 248 [17, 219] 3 h
-- M_codeOf
set_option maxRecDepth 100000 in
theorem e_M_codeOf_0 {sc : bm_Sc} {Q : bm_O → bm_S → Prop} {x0 : Int} {x1 : Int} {ι : bm_S}
  (h : bW sc 249 2 [bi x0, bi x1, bi 0] [] ι Q) :
  bC sc 249 [bi x0, bi x1] ι Q := bm_snd 249 [2] 3 h
set_option maxRecDepth 100000 in
theorem e_M_codeOf_2 {sc : bm_Sc} {Q : bm_O → bm_S → Prop} {x0 : Int} {x1 : Int} {x2 : Int} {ι : bm_S}
  (h : (if (23 : Int) ≤ x2 then
      Q (.inl (some (bi x2))) ι
    else
      (if x1 = (0 : Int) then
        (bm_rg (x2 + 1)) ∧
        bC sc 203 [bi (x2 + 1)] ι (bk1 (fun r1 ι1 => 
          (if x0 < r1 then
            Q (.inl (some (bi x2))) ι1
          else
            (bm_rg (x2 + 1)) ∧
            bW sc 249 2 [bi x0, bi x1, bi (x2 + 1)] [] ι1 Q)) (bq Q))
      else
        (bm_rg (x2 + 1)) ∧
        bC sc 202 [bi (x2 + 1)] ι (bk1 (fun r2 ι2 => 
          (if x0 < r2 then
            Q (.inl (some (bi x2))) ι2
          else
            (bm_rg (x2 + 1)) ∧
            bW sc 249 2 [bi x0, bi x1, bi (x2 + 1)] [] ι2 Q)) (bq Q))))) :
  bW sc 249 2 [bi x0, bi x1, bi x2] [] ι Q := bm_snd 249 [2] 15 h
-- M_cellOf
set_option maxRecDepth 100000 in
theorem e_M_cellOf_0 {sc : bm_Sc} {Q : bm_O → bm_S → Prop} {x0 : Int} {x1 : Int} {ι : bm_S}
  (h : bW sc 250 2 [bi x0, bi x1, bi 2] [] ι Q) :
  bC sc 250 [bi x0, bi x1] ι Q := bm_snd 250 [2] 3 h
set_option maxRecDepth 100000 in
theorem e_M_cellOf_2 {sc : bm_Sc} {Q : bm_O → bm_S → Prop} {x0 : Int} {x1 : Int} {x2 : Int} {ι : bm_S}
  (h : bC sc 204 [bi x2] ι (bk1 (fun r1 ι1 => 
      (if r1 = x0 then
        bC sc 205 [bi x2] ι1 (bk1 (fun r2 ι2 => 
          (if r2 = x1 then
            Q (.inl (some (bi x2))) ι2
          else
            (bm_rg (x2 + 1)) ∧
            bW sc 250 2 [bi x0, bi x1, bi (x2 + 1)] [] ι2 Q)) (bq Q))
      else
        (bm_rg (x2 + 1)) ∧
        bW sc 250 2 [bi x0, bi x1, bi (x2 + 1)] [] ι1 Q)) (bq Q))) :
  bW sc 250 2 [bi x0, bi x1, bi x2] [] ι Q := bm_snd 250 [2] 11 h
-- M_signOf
set_option maxRecDepth 100000 in
theorem e_M_signOf_0 {sc : bm_Sc} {Q : bm_O → bm_S → Prop} {x1 : Int} {ι : bm_S}
  (h : bW sc 251 2 [br 13 0, bi x1, bi 0] [] ι Q) :
  bC sc 251 [br 13 0, bi x1] ι Q := bm_snd 251 [2, 29] 3 h
set_option maxRecDepth 100000 in
theorem e_M_signOf_2 {sc : bm_Sc} {Q : bm_O → bm_S → Prop} {x1 : Int} {x2 : Int} {ι : bm_S}
  (h : (if (4 : Int) ≤ x2 then
      bW sc 251 29 [br 13 0, bi x1, bi 1] [] ι Q
    else
      (bm_rg (3 - x2)) ∧
      (0 ≤ 3 - x2 ∧ 3 - x2 < (4 : Int)) ∧
      (if ι 107 0 (3 - x2) = x1 then
        Q (.inl (some (bi x2))) ι
      else
        (bm_rg (x2 + 1)) ∧
        bW sc 251 2 [br 13 0, bi x1, bi (x2 + 1)] [] ι Q))) :
  bW sc 251 2 [br 13 0, bi x1, bi x2] [] ι Q := bm_snd 251 [2, 29] 14 h
set_option maxRecDepth 100000 in
theorem e_M_signOf_29 {sc : bm_Sc} {Q : bm_O → bm_S → Prop} {v0 : bm_V} {x1 : Int} {x2 : Int} {ι : bm_S}
  (h : ((0 ≤ x2 ∧ x2 < 32) ∧ bm_rg (4 * bm_p2 x2)) ∧
    (bm_rg (x1 + 3)) ∧
    (if x1 + 3 < 4 * bm_p2 x2 then
      (bm_rg (x2 - 1)) ∧
      (bm_rg (2 * (x2 - 1))) ∧
      (bm_rg (16 + 2 * (x2 - 1))) ∧
      (bm_rg (x1 + 3)) ∧
      (0 ≤ x2 ∧ x2 < 32) ∧
      (bm_rg (16 + 2 * (x2 - 1) + (x1 + 3) / bm_p2 x2 % 2)) ∧
      Q (.inl (some (bi (16 + 2 * (x2 - 1) + (x1 + 3) / bm_p2 x2 % 2)))) ι
    else
      (bm_rg (x2 + 1)) ∧
      bW sc 251 29 [v0, bi x1, bi (x2 + 1)] [] ι Q)) :
  bW sc 251 29 [v0, bi x1, bi x2] [] ι Q := bm_snd 251 [2, 29] 23 h
-- M_addCommand
set_option maxRecDepth 100000 in
theorem e_M_addCommand_0 {sc : bm_Sc} {Q : bm_O → bm_S → Prop} {x1 : Int} {x2 : Int} {x3 : Int} {x4 : Int} {x5 : Int} {ι : bm_S}
  (h : (if x4 = (0 : Int) then
      bC sc 251 [br 13 0, bi x3] ι (bk1 (fun r1 ι1 => 
        bC sc 249 [bi x1, bi 1] ι1 (bk1 (fun r2 ι2 => 
          bC sc 249 [bi x2, bi 0] ι2 (bk1 (fun r3 ι3 => 
            (if r1 = (0 : Int) then
              (if (8 : Int) ≤ r2 then
                bW sc 252 57 [br 13 0, bi x1, bi x2, bi x3, bi x4, bi x5, bi r1, bi r2, bi r3, bu, bu] [] ι3 Q
              else
                (if (16 : Int) ≤ r3 then
                  bW sc 252 57 [br 13 0, bi x1, bi x2, bi x3, bi x4, bi x5, bi r1, bi r2, bi r3, bu, bu] [] ι3 Q
                else
                  (0 ≤ r3 ∧ 0 < (8 : Int)) ∧
                  (bm_rg (4 * ι3 13 0 63)) ∧
                  (0 ≤ 4 * ι3 13 0 63 ∧ 4 * ι3 13 0 63 < (8100 : Int)) ∧
                  (bm_rg (4 * ι3 13 0 63)) ∧
                  (bm_rg (4 * ι3 13 0 63 + 1)) ∧
                  (if x4 = (0 : Int) then
                    (0 ≤ 4 * ι3 13 0 63 + 1 ∧ 4 * ι3 13 0 63 + 1 < (8100 : Int)) ∧
                    (bm_rg (4 * ι3 13 0 63)) ∧
                    (bm_rg (4 * ι3 13 0 63 + 2)) ∧
                    (if x4 = (0 : Int) then
                      (0 ≤ 4 * ι3 13 0 63 + 2 ∧ 4 * ι3 13 0 63 + 2 < (8100 : Int)) ∧
                      (bm_rg (4 * ι3 13 0 63)) ∧
                      (bm_rg (4 * ι3 13 0 63 + 3)) ∧
                      (bm_rg (64 * (r3 / 8))) ∧
                      (0 ≤ r2 ∧ 0 < (8 : Int)) ∧
                      (bm_rg (8 * (r2 % 8))) ∧
                      (bm_rg (64 * (r3 / 8) + 8 * (r2 % 8))) ∧
                      (0 ≤ r3 ∧ 0 < (8 : Int)) ∧
                      (bm_rg (64 * (r3 / 8) + 8 * (r2 % 8) + r3 % 8)) ∧
                      (0 ≤ 4 * ι3 13 0 63 + 3 ∧ 4 * ι3 13 0 63 + 3 < (8100 : Int)) ∧
                      (if (2 : Int) ≤ r3 / 8 then
                        (0 ≤ ι3 13 0 63 ∧ ι3 13 0 63 < (2100 : Int)) ∧
                        (0 ≤ ι3 13 0 63 ∧ ι3 13 0 63 < (2100 : Int)) ∧
                        (bm_rg (ι3 13 0 63 + 1)) ∧
                        (if x5 = (0 : Int) then
                          bW sc 252 252 [br 13 0, bi x1, bi x2, bi x3, bi x4, bi x5, bi r1, bi r2, bi r3, bi (r3 / 8), bu] [] (up (up (up (up (up (up (up ι3 104 0 (4 * ι3 13 0 63) x1) 104 0 (4 * ι3 13 0 63 + 1) x2) 104 0 (4 * ι3 13 0 63 + 2) x3) 104 0 (4 * ι3 13 0 63 + 3) (64 * (r3 / 8) + 8 * (r2 % 8) + r3 % 8)) 105 0 (ι3 13 0 63) r1) 106 0 (ι3 13 0 63) x2) 13 0 63 (ι3 13 0 63 + 1)) Q
                        else
                          (if r1 = (0 : Int) then
                            bW sc 252 252 [br 13 0, bi x1, bi x2, bi x3, bi x4, bi x5, bi r1, bi r2, bi r3, bi (r3 / 8), bu] [] (up (up (up (up (up (up (up ι3 104 0 (4 * ι3 13 0 63) x1) 104 0 (4 * ι3 13 0 63 + 1) x2) 104 0 (4 * ι3 13 0 63 + 2) x3) 104 0 (4 * ι3 13 0 63 + 3) (64 * (r3 / 8) + 8 * (r2 % 8) + r3 % 8)) 105 0 (ι3 13 0 63) r1) 106 0 (ι3 13 0 63) x2) 13 0 63 (ι3 13 0 63 + 1)) Q
                          else
                            bW sc 252 217 [br 13 0, bi x1, bi x2, bi x3, bi x4, bi x5, bi r1, bi r2, bi r3, bi (r3 / 8), bi 0] [] (up (up (up (up (up (up (up ι3 104 0 (4 * ι3 13 0 63) x1) 104 0 (4 * ι3 13 0 63 + 1) x2) 104 0 (4 * ι3 13 0 63 + 2) x3) 104 0 (4 * ι3 13 0 63 + 3) (64 * (r3 / 8) + 8 * (r2 % 8) + r3 % 8)) 105 0 (ι3 13 0 63) r1) 106 0 (ι3 13 0 63) x2) 13 0 63 (ι3 13 0 63 + 1)) Q))
                      else
                        (0 ≤ ι3 13 0 63 ∧ ι3 13 0 63 < (2100 : Int)) ∧
                        (0 ≤ ι3 13 0 63 ∧ ι3 13 0 63 < (2100 : Int)) ∧
                        (bm_rg (ι3 13 0 63 + 1)) ∧
                        (if x5 = (0 : Int) then
                          bW sc 252 252 [br 13 0, bi x1, bi x2, bi x3, bi x4, bi x5, bi r1, bi r2, bi r3, bi (r3 / 8), bu] [] (up (up (up (up (up (up (up ι3 104 0 (4 * ι3 13 0 63) x1) 104 0 (4 * ι3 13 0 63 + 1) x2) 104 0 (4 * ι3 13 0 63 + 2) x3) 104 0 (4 * ι3 13 0 63 + 3) (64 * (r3 / 8) + 8 * (r2 % 8) + r3 % 8)) 105 0 (ι3 13 0 63) (-1)) 106 0 (ι3 13 0 63) x2) 13 0 63 (ι3 13 0 63 + 1)) Q
                        else
                          (if r1 = (0 : Int) then
                            bW sc 252 252 [br 13 0, bi x1, bi x2, bi x3, bi x4, bi x5, bi r1, bi r2, bi r3, bi (r3 / 8), bu] [] (up (up (up (up (up (up (up ι3 104 0 (4 * ι3 13 0 63) x1) 104 0 (4 * ι3 13 0 63 + 1) x2) 104 0 (4 * ι3 13 0 63 + 2) x3) 104 0 (4 * ι3 13 0 63 + 3) (64 * (r3 / 8) + 8 * (r2 % 8) + r3 % 8)) 105 0 (ι3 13 0 63) (-1)) 106 0 (ι3 13 0 63) x2) 13 0 63 (ι3 13 0 63 + 1)) Q
                          else
                            bW sc 252 217 [br 13 0, bi x1, bi x2, bi x3, bi x4, bi x5, bi r1, bi r2, bi r3, bi (r3 / 8), bi 0] [] (up (up (up (up (up (up (up ι3 104 0 (4 * ι3 13 0 63) x1) 104 0 (4 * ι3 13 0 63 + 1) x2) 104 0 (4 * ι3 13 0 63 + 2) x3) 104 0 (4 * ι3 13 0 63 + 3) (64 * (r3 / 8) + 8 * (r2 % 8) + r3 % 8)) 105 0 (ι3 13 0 63) (-1)) 106 0 (ι3 13 0 63) x2) 13 0 63 (ι3 13 0 63 + 1)) Q)))
                    else
                      (0 ≤ 4 * ι3 13 0 63 + 2 ∧ 4 * ι3 13 0 63 + 2 < (8100 : Int)) ∧
                      (bm_rg (4 * ι3 13 0 63)) ∧
                      (bm_rg (4 * ι3 13 0 63 + 3)) ∧
                      (bm_rg (64 * (r3 / 8))) ∧
                      (0 ≤ r2 ∧ 0 < (8 : Int)) ∧
                      (bm_rg (8 * (r2 % 8))) ∧
                      (bm_rg (64 * (r3 / 8) + 8 * (r2 % 8))) ∧
                      (0 ≤ r3 ∧ 0 < (8 : Int)) ∧
                      (bm_rg (64 * (r3 / 8) + 8 * (r2 % 8) + r3 % 8)) ∧
                      (0 ≤ 4 * ι3 13 0 63 + 3 ∧ 4 * ι3 13 0 63 + 3 < (8100 : Int)) ∧
                      (if (2 : Int) ≤ r3 / 8 then
                        (0 ≤ ι3 13 0 63 ∧ ι3 13 0 63 < (2100 : Int)) ∧
                        (0 ≤ ι3 13 0 63 ∧ ι3 13 0 63 < (2100 : Int)) ∧
                        (bm_rg (ι3 13 0 63 + 1)) ∧
                        (if x5 = (0 : Int) then
                          bW sc 252 252 [br 13 0, bi x1, bi x2, bi x3, bi x4, bi x5, bi r1, bi r2, bi r3, bi (r3 / 8), bu] [] (up (up (up (up (up (up (up ι3 104 0 (4 * ι3 13 0 63) x1) 104 0 (4 * ι3 13 0 63 + 1) x2) 104 0 (4 * ι3 13 0 63 + 2) 0) 104 0 (4 * ι3 13 0 63 + 3) (64 * (r3 / 8) + 8 * (r2 % 8) + r3 % 8)) 105 0 (ι3 13 0 63) r1) 106 0 (ι3 13 0 63) x2) 13 0 63 (ι3 13 0 63 + 1)) Q
                        else
                          (if r1 = (0 : Int) then
                            bW sc 252 252 [br 13 0, bi x1, bi x2, bi x3, bi x4, bi x5, bi r1, bi r2, bi r3, bi (r3 / 8), bu] [] (up (up (up (up (up (up (up ι3 104 0 (4 * ι3 13 0 63) x1) 104 0 (4 * ι3 13 0 63 + 1) x2) 104 0 (4 * ι3 13 0 63 + 2) 0) 104 0 (4 * ι3 13 0 63 + 3) (64 * (r3 / 8) + 8 * (r2 % 8) + r3 % 8)) 105 0 (ι3 13 0 63) r1) 106 0 (ι3 13 0 63) x2) 13 0 63 (ι3 13 0 63 + 1)) Q
                          else
                            bW sc 252 217 [br 13 0, bi x1, bi x2, bi x3, bi x4, bi x5, bi r1, bi r2, bi r3, bi (r3 / 8), bi 0] [] (up (up (up (up (up (up (up ι3 104 0 (4 * ι3 13 0 63) x1) 104 0 (4 * ι3 13 0 63 + 1) x2) 104 0 (4 * ι3 13 0 63 + 2) 0) 104 0 (4 * ι3 13 0 63 + 3) (64 * (r3 / 8) + 8 * (r2 % 8) + r3 % 8)) 105 0 (ι3 13 0 63) r1) 106 0 (ι3 13 0 63) x2) 13 0 63 (ι3 13 0 63 + 1)) Q))
                      else
                        (0 ≤ ι3 13 0 63 ∧ ι3 13 0 63 < (2100 : Int)) ∧
                        (0 ≤ ι3 13 0 63 ∧ ι3 13 0 63 < (2100 : Int)) ∧
                        (bm_rg (ι3 13 0 63 + 1)) ∧
                        (if x5 = (0 : Int) then
                          bW sc 252 252 [br 13 0, bi x1, bi x2, bi x3, bi x4, bi x5, bi r1, bi r2, bi r3, bi (r3 / 8), bu] [] (up (up (up (up (up (up (up ι3 104 0 (4 * ι3 13 0 63) x1) 104 0 (4 * ι3 13 0 63 + 1) x2) 104 0 (4 * ι3 13 0 63 + 2) 0) 104 0 (4 * ι3 13 0 63 + 3) (64 * (r3 / 8) + 8 * (r2 % 8) + r3 % 8)) 105 0 (ι3 13 0 63) (-1)) 106 0 (ι3 13 0 63) x2) 13 0 63 (ι3 13 0 63 + 1)) Q
                        else
                          (if r1 = (0 : Int) then
                            bW sc 252 252 [br 13 0, bi x1, bi x2, bi x3, bi x4, bi x5, bi r1, bi r2, bi r3, bi (r3 / 8), bu] [] (up (up (up (up (up (up (up ι3 104 0 (4 * ι3 13 0 63) x1) 104 0 (4 * ι3 13 0 63 + 1) x2) 104 0 (4 * ι3 13 0 63 + 2) 0) 104 0 (4 * ι3 13 0 63 + 3) (64 * (r3 / 8) + 8 * (r2 % 8) + r3 % 8)) 105 0 (ι3 13 0 63) (-1)) 106 0 (ι3 13 0 63) x2) 13 0 63 (ι3 13 0 63 + 1)) Q
                          else
                            bW sc 252 217 [br 13 0, bi x1, bi x2, bi x3, bi x4, bi x5, bi r1, bi r2, bi r3, bi (r3 / 8), bi 0] [] (up (up (up (up (up (up (up ι3 104 0 (4 * ι3 13 0 63) x1) 104 0 (4 * ι3 13 0 63 + 1) x2) 104 0 (4 * ι3 13 0 63 + 2) 0) 104 0 (4 * ι3 13 0 63 + 3) (64 * (r3 / 8) + 8 * (r2 % 8) + r3 % 8)) 105 0 (ι3 13 0 63) (-1)) 106 0 (ι3 13 0 63) x2) 13 0 63 (ι3 13 0 63 + 1)) Q))))
                  else
                    (0 ≤ 4 * ι3 13 0 63 + 1 ∧ 4 * ι3 13 0 63 + 1 < (8100 : Int)) ∧
                    (bm_rg (4 * ι3 13 0 63)) ∧
                    (bm_rg (4 * ι3 13 0 63 + 2)) ∧
                    (if x4 = (0 : Int) then
                      (0 ≤ 4 * ι3 13 0 63 + 2 ∧ 4 * ι3 13 0 63 + 2 < (8100 : Int)) ∧
                      (bm_rg (4 * ι3 13 0 63)) ∧
                      (bm_rg (4 * ι3 13 0 63 + 3)) ∧
                      (bm_rg (64 * (r3 / 8))) ∧
                      (0 ≤ r2 ∧ 0 < (8 : Int)) ∧
                      (bm_rg (8 * (r2 % 8))) ∧
                      (bm_rg (64 * (r3 / 8) + 8 * (r2 % 8))) ∧
                      (0 ≤ r3 ∧ 0 < (8 : Int)) ∧
                      (bm_rg (64 * (r3 / 8) + 8 * (r2 % 8) + r3 % 8)) ∧
                      (0 ≤ 4 * ι3 13 0 63 + 3 ∧ 4 * ι3 13 0 63 + 3 < (8100 : Int)) ∧
                      (if (2 : Int) ≤ r3 / 8 then
                        (0 ≤ ι3 13 0 63 ∧ ι3 13 0 63 < (2100 : Int)) ∧
                        (0 ≤ ι3 13 0 63 ∧ ι3 13 0 63 < (2100 : Int)) ∧
                        (bm_rg (ι3 13 0 63 + 1)) ∧
                        (if x5 = (0 : Int) then
                          bW sc 252 252 [br 13 0, bi x1, bi x2, bi x3, bi x4, bi x5, bi r1, bi r2, bi r3, bi (r3 / 8), bu] [] (up (up (up (up (up (up (up ι3 104 0 (4 * ι3 13 0 63) x1) 104 0 (4 * ι3 13 0 63 + 1) 0) 104 0 (4 * ι3 13 0 63 + 2) x3) 104 0 (4 * ι3 13 0 63 + 3) (64 * (r3 / 8) + 8 * (r2 % 8) + r3 % 8)) 105 0 (ι3 13 0 63) r1) 106 0 (ι3 13 0 63) x2) 13 0 63 (ι3 13 0 63 + 1)) Q
                        else
                          (if r1 = (0 : Int) then
                            bW sc 252 252 [br 13 0, bi x1, bi x2, bi x3, bi x4, bi x5, bi r1, bi r2, bi r3, bi (r3 / 8), bu] [] (up (up (up (up (up (up (up ι3 104 0 (4 * ι3 13 0 63) x1) 104 0 (4 * ι3 13 0 63 + 1) 0) 104 0 (4 * ι3 13 0 63 + 2) x3) 104 0 (4 * ι3 13 0 63 + 3) (64 * (r3 / 8) + 8 * (r2 % 8) + r3 % 8)) 105 0 (ι3 13 0 63) r1) 106 0 (ι3 13 0 63) x2) 13 0 63 (ι3 13 0 63 + 1)) Q
                          else
                            bW sc 252 217 [br 13 0, bi x1, bi x2, bi x3, bi x4, bi x5, bi r1, bi r2, bi r3, bi (r3 / 8), bi 0] [] (up (up (up (up (up (up (up ι3 104 0 (4 * ι3 13 0 63) x1) 104 0 (4 * ι3 13 0 63 + 1) 0) 104 0 (4 * ι3 13 0 63 + 2) x3) 104 0 (4 * ι3 13 0 63 + 3) (64 * (r3 / 8) + 8 * (r2 % 8) + r3 % 8)) 105 0 (ι3 13 0 63) r1) 106 0 (ι3 13 0 63) x2) 13 0 63 (ι3 13 0 63 + 1)) Q))
                      else
                        (0 ≤ ι3 13 0 63 ∧ ι3 13 0 63 < (2100 : Int)) ∧
                        (0 ≤ ι3 13 0 63 ∧ ι3 13 0 63 < (2100 : Int)) ∧
                        (bm_rg (ι3 13 0 63 + 1)) ∧
                        (if x5 = (0 : Int) then
                          bW sc 252 252 [br 13 0, bi x1, bi x2, bi x3, bi x4, bi x5, bi r1, bi r2, bi r3, bi (r3 / 8), bu] [] (up (up (up (up (up (up (up ι3 104 0 (4 * ι3 13 0 63) x1) 104 0 (4 * ι3 13 0 63 + 1) 0) 104 0 (4 * ι3 13 0 63 + 2) x3) 104 0 (4 * ι3 13 0 63 + 3) (64 * (r3 / 8) + 8 * (r2 % 8) + r3 % 8)) 105 0 (ι3 13 0 63) (-1)) 106 0 (ι3 13 0 63) x2) 13 0 63 (ι3 13 0 63 + 1)) Q
                        else
                          (if r1 = (0 : Int) then
                            bW sc 252 252 [br 13 0, bi x1, bi x2, bi x3, bi x4, bi x5, bi r1, bi r2, bi r3, bi (r3 / 8), bu] [] (up (up (up (up (up (up (up ι3 104 0 (4 * ι3 13 0 63) x1) 104 0 (4 * ι3 13 0 63 + 1) 0) 104 0 (4 * ι3 13 0 63 + 2) x3) 104 0 (4 * ι3 13 0 63 + 3) (64 * (r3 / 8) + 8 * (r2 % 8) + r3 % 8)) 105 0 (ι3 13 0 63) (-1)) 106 0 (ι3 13 0 63) x2) 13 0 63 (ι3 13 0 63 + 1)) Q
                          else
                            bW sc 252 217 [br 13 0, bi x1, bi x2, bi x3, bi x4, bi x5, bi r1, bi r2, bi r3, bi (r3 / 8), bi 0] [] (up (up (up (up (up (up (up ι3 104 0 (4 * ι3 13 0 63) x1) 104 0 (4 * ι3 13 0 63 + 1) 0) 104 0 (4 * ι3 13 0 63 + 2) x3) 104 0 (4 * ι3 13 0 63 + 3) (64 * (r3 / 8) + 8 * (r2 % 8) + r3 % 8)) 105 0 (ι3 13 0 63) (-1)) 106 0 (ι3 13 0 63) x2) 13 0 63 (ι3 13 0 63 + 1)) Q)))
                    else
                      (0 ≤ 4 * ι3 13 0 63 + 2 ∧ 4 * ι3 13 0 63 + 2 < (8100 : Int)) ∧
                      (bm_rg (4 * ι3 13 0 63)) ∧
                      (bm_rg (4 * ι3 13 0 63 + 3)) ∧
                      (bm_rg (64 * (r3 / 8))) ∧
                      (0 ≤ r2 ∧ 0 < (8 : Int)) ∧
                      (bm_rg (8 * (r2 % 8))) ∧
                      (bm_rg (64 * (r3 / 8) + 8 * (r2 % 8))) ∧
                      (0 ≤ r3 ∧ 0 < (8 : Int)) ∧
                      (bm_rg (64 * (r3 / 8) + 8 * (r2 % 8) + r3 % 8)) ∧
                      (0 ≤ 4 * ι3 13 0 63 + 3 ∧ 4 * ι3 13 0 63 + 3 < (8100 : Int)) ∧
                      (if (2 : Int) ≤ r3 / 8 then
                        (0 ≤ ι3 13 0 63 ∧ ι3 13 0 63 < (2100 : Int)) ∧
                        (0 ≤ ι3 13 0 63 ∧ ι3 13 0 63 < (2100 : Int)) ∧
                        (bm_rg (ι3 13 0 63 + 1)) ∧
                        (if x5 = (0 : Int) then
                          bW sc 252 252 [br 13 0, bi x1, bi x2, bi x3, bi x4, bi x5, bi r1, bi r2, bi r3, bi (r3 / 8), bu] [] (up (up (up (up (up (up (up ι3 104 0 (4 * ι3 13 0 63) x1) 104 0 (4 * ι3 13 0 63 + 1) 0) 104 0 (4 * ι3 13 0 63 + 2) 0) 104 0 (4 * ι3 13 0 63 + 3) (64 * (r3 / 8) + 8 * (r2 % 8) + r3 % 8)) 105 0 (ι3 13 0 63) r1) 106 0 (ι3 13 0 63) x2) 13 0 63 (ι3 13 0 63 + 1)) Q
                        else
                          (if r1 = (0 : Int) then
                            bW sc 252 252 [br 13 0, bi x1, bi x2, bi x3, bi x4, bi x5, bi r1, bi r2, bi r3, bi (r3 / 8), bu] [] (up (up (up (up (up (up (up ι3 104 0 (4 * ι3 13 0 63) x1) 104 0 (4 * ι3 13 0 63 + 1) 0) 104 0 (4 * ι3 13 0 63 + 2) 0) 104 0 (4 * ι3 13 0 63 + 3) (64 * (r3 / 8) + 8 * (r2 % 8) + r3 % 8)) 105 0 (ι3 13 0 63) r1) 106 0 (ι3 13 0 63) x2) 13 0 63 (ι3 13 0 63 + 1)) Q
                          else
                            bW sc 252 217 [br 13 0, bi x1, bi x2, bi x3, bi x4, bi x5, bi r1, bi r2, bi r3, bi (r3 / 8), bi 0] [] (up (up (up (up (up (up (up ι3 104 0 (4 * ι3 13 0 63) x1) 104 0 (4 * ι3 13 0 63 + 1) 0) 104 0 (4 * ι3 13 0 63 + 2) 0) 104 0 (4 * ι3 13 0 63 + 3) (64 * (r3 / 8) + 8 * (r2 % 8) + r3 % 8)) 105 0 (ι3 13 0 63) r1) 106 0 (ι3 13 0 63) x2) 13 0 63 (ι3 13 0 63 + 1)) Q))
                      else
                        (0 ≤ ι3 13 0 63 ∧ ι3 13 0 63 < (2100 : Int)) ∧
                        (0 ≤ ι3 13 0 63 ∧ ι3 13 0 63 < (2100 : Int)) ∧
                        (bm_rg (ι3 13 0 63 + 1)) ∧
                        (if x5 = (0 : Int) then
                          bW sc 252 252 [br 13 0, bi x1, bi x2, bi x3, bi x4, bi x5, bi r1, bi r2, bi r3, bi (r3 / 8), bu] [] (up (up (up (up (up (up (up ι3 104 0 (4 * ι3 13 0 63) x1) 104 0 (4 * ι3 13 0 63 + 1) 0) 104 0 (4 * ι3 13 0 63 + 2) 0) 104 0 (4 * ι3 13 0 63 + 3) (64 * (r3 / 8) + 8 * (r2 % 8) + r3 % 8)) 105 0 (ι3 13 0 63) (-1)) 106 0 (ι3 13 0 63) x2) 13 0 63 (ι3 13 0 63 + 1)) Q
                        else
                          (if r1 = (0 : Int) then
                            bW sc 252 252 [br 13 0, bi x1, bi x2, bi x3, bi x4, bi x5, bi r1, bi r2, bi r3, bi (r3 / 8), bu] [] (up (up (up (up (up (up (up ι3 104 0 (4 * ι3 13 0 63) x1) 104 0 (4 * ι3 13 0 63 + 1) 0) 104 0 (4 * ι3 13 0 63 + 2) 0) 104 0 (4 * ι3 13 0 63 + 3) (64 * (r3 / 8) + 8 * (r2 % 8) + r3 % 8)) 105 0 (ι3 13 0 63) (-1)) 106 0 (ι3 13 0 63) x2) 13 0 63 (ι3 13 0 63 + 1)) Q
                          else
                            bW sc 252 217 [br 13 0, bi x1, bi x2, bi x3, bi x4, bi x5, bi r1, bi r2, bi r3, bi (r3 / 8), bi 0] [] (up (up (up (up (up (up (up ι3 104 0 (4 * ι3 13 0 63) x1) 104 0 (4 * ι3 13 0 63 + 1) 0) 104 0 (4 * ι3 13 0 63 + 2) 0) 104 0 (4 * ι3 13 0 63 + 3) (64 * (r3 / 8) + 8 * (r2 % 8) + r3 % 8)) 105 0 (ι3 13 0 63) (-1)) 106 0 (ι3 13 0 63) x2) 13 0 63 (ι3 13 0 63 + 1)) Q)))))))
            else
              bW sc 252 57 [br 13 0, bi x1, bi x2, bi x3, bi x4, bi x5, bi r1, bi r2, bi r3, bu, bu] [] ι3 Q)) (bq Q))) (bq Q))) (bq Q))
    else
      bC sc 249 [bi x1, bi 1] ι (bk1 (fun r4 ι4 => 
        bC sc 249 [bi x2, bi 0] ι4 (bk1 (fun r5 ι5 => 
          bW sc 252 57 [br 13 0, bi x1, bi x2, bi x3, bi x4, bi x5, bi (-1), bi r4, bi r5, bu, bu] [] ι5 Q) (bq Q))) (bq Q)))) :
  bC sc 252 [br 13 0, bi x1, bi x2, bi x3, bi x4, bi x5] ι Q := bm_snd 252 [57, 217, 252] 112 h
set_option maxRecDepth 100000 in
theorem e_M_addCommand_57 {sc : bm_Sc} {Q : bm_O → bm_S → Prop} {x1 : Int} {x2 : Int} {x3 : Int} {x4 : Int} {x5 : Int} {x6 : Int} {x7 : Int} {x8 : Int} {v9 : bm_V} {v10 : bm_V} {ι : bm_S}
  (h : (0 ≤ x7 ∧ 0 < (8 : Int)) ∧
    (0 ≤ x8 ∧ 0 < (8 : Int)) ∧
    bC sc 250 [bi (x7 / 8), bi (x8 / 8)] ι (bk1 (fun r1 ι1 => 
      (bm_rg (4 * ι1 13 0 63)) ∧
      (0 ≤ 4 * ι1 13 0 63 ∧ 4 * ι1 13 0 63 < (8100 : Int)) ∧
      (bm_rg (4 * ι1 13 0 63)) ∧
      (bm_rg (4 * ι1 13 0 63 + 1)) ∧
      (if x4 = (0 : Int) then
        (0 ≤ 4 * ι1 13 0 63 + 1 ∧ 4 * ι1 13 0 63 + 1 < (8100 : Int)) ∧
        (bm_rg (4 * ι1 13 0 63)) ∧
        (bm_rg (4 * ι1 13 0 63 + 2)) ∧
        (if x4 = (0 : Int) then
          (0 ≤ 4 * ι1 13 0 63 + 2 ∧ 4 * ι1 13 0 63 + 2 < (8100 : Int)) ∧
          (bm_rg (4 * ι1 13 0 63)) ∧
          (bm_rg (4 * ι1 13 0 63 + 3)) ∧
          (bm_rg (64 * r1)) ∧
          (0 ≤ x7 ∧ 0 < (8 : Int)) ∧
          (bm_rg (8 * (x7 % 8))) ∧
          (bm_rg (64 * r1 + 8 * (x7 % 8))) ∧
          (0 ≤ x8 ∧ 0 < (8 : Int)) ∧
          (bm_rg (64 * r1 + 8 * (x7 % 8) + x8 % 8)) ∧
          (0 ≤ 4 * ι1 13 0 63 + 3 ∧ 4 * ι1 13 0 63 + 3 < (8100 : Int)) ∧
          (if (2 : Int) ≤ r1 then
            (0 ≤ ι1 13 0 63 ∧ ι1 13 0 63 < (2100 : Int)) ∧
            (0 ≤ ι1 13 0 63 ∧ ι1 13 0 63 < (2100 : Int)) ∧
            (bm_rg (ι1 13 0 63 + 1)) ∧
            (if x5 = (0 : Int) then
              bW sc 252 252 [br 13 0, bi x1, bi x2, bi x3, bi x4, bi x5, bi x6, bi x7, bi x8, bi r1, v10] [] (up (up (up (up (up (up (up ι1 104 0 (4 * ι1 13 0 63) x1) 104 0 (4 * ι1 13 0 63 + 1) x2) 104 0 (4 * ι1 13 0 63 + 2) x3) 104 0 (4 * ι1 13 0 63 + 3) (64 * r1 + 8 * (x7 % 8) + x8 % 8)) 105 0 (ι1 13 0 63) x6) 106 0 (ι1 13 0 63) x2) 13 0 63 (ι1 13 0 63 + 1)) Q
            else
              (if x6 = (0 : Int) then
                bW sc 252 252 [br 13 0, bi x1, bi x2, bi x3, bi x4, bi x5, bi x6, bi x7, bi x8, bi r1, v10] [] (up (up (up (up (up (up (up ι1 104 0 (4 * ι1 13 0 63) x1) 104 0 (4 * ι1 13 0 63 + 1) x2) 104 0 (4 * ι1 13 0 63 + 2) x3) 104 0 (4 * ι1 13 0 63 + 3) (64 * r1 + 8 * (x7 % 8) + x8 % 8)) 105 0 (ι1 13 0 63) x6) 106 0 (ι1 13 0 63) x2) 13 0 63 (ι1 13 0 63 + 1)) Q
              else
                bW sc 252 217 [br 13 0, bi x1, bi x2, bi x3, bi x4, bi x5, bi x6, bi x7, bi x8, bi r1, bi 0] [] (up (up (up (up (up (up (up ι1 104 0 (4 * ι1 13 0 63) x1) 104 0 (4 * ι1 13 0 63 + 1) x2) 104 0 (4 * ι1 13 0 63 + 2) x3) 104 0 (4 * ι1 13 0 63 + 3) (64 * r1 + 8 * (x7 % 8) + x8 % 8)) 105 0 (ι1 13 0 63) x6) 106 0 (ι1 13 0 63) x2) 13 0 63 (ι1 13 0 63 + 1)) Q))
          else
            (0 ≤ ι1 13 0 63 ∧ ι1 13 0 63 < (2100 : Int)) ∧
            (0 ≤ ι1 13 0 63 ∧ ι1 13 0 63 < (2100 : Int)) ∧
            (bm_rg (ι1 13 0 63 + 1)) ∧
            (if x5 = (0 : Int) then
              bW sc 252 252 [br 13 0, bi x1, bi x2, bi x3, bi x4, bi x5, bi x6, bi x7, bi x8, bi r1, v10] [] (up (up (up (up (up (up (up ι1 104 0 (4 * ι1 13 0 63) x1) 104 0 (4 * ι1 13 0 63 + 1) x2) 104 0 (4 * ι1 13 0 63 + 2) x3) 104 0 (4 * ι1 13 0 63 + 3) (64 * r1 + 8 * (x7 % 8) + x8 % 8)) 105 0 (ι1 13 0 63) (-1)) 106 0 (ι1 13 0 63) x2) 13 0 63 (ι1 13 0 63 + 1)) Q
            else
              (if x6 = (0 : Int) then
                bW sc 252 252 [br 13 0, bi x1, bi x2, bi x3, bi x4, bi x5, bi x6, bi x7, bi x8, bi r1, v10] [] (up (up (up (up (up (up (up ι1 104 0 (4 * ι1 13 0 63) x1) 104 0 (4 * ι1 13 0 63 + 1) x2) 104 0 (4 * ι1 13 0 63 + 2) x3) 104 0 (4 * ι1 13 0 63 + 3) (64 * r1 + 8 * (x7 % 8) + x8 % 8)) 105 0 (ι1 13 0 63) (-1)) 106 0 (ι1 13 0 63) x2) 13 0 63 (ι1 13 0 63 + 1)) Q
              else
                bW sc 252 217 [br 13 0, bi x1, bi x2, bi x3, bi x4, bi x5, bi x6, bi x7, bi x8, bi r1, bi 0] [] (up (up (up (up (up (up (up ι1 104 0 (4 * ι1 13 0 63) x1) 104 0 (4 * ι1 13 0 63 + 1) x2) 104 0 (4 * ι1 13 0 63 + 2) x3) 104 0 (4 * ι1 13 0 63 + 3) (64 * r1 + 8 * (x7 % 8) + x8 % 8)) 105 0 (ι1 13 0 63) (-1)) 106 0 (ι1 13 0 63) x2) 13 0 63 (ι1 13 0 63 + 1)) Q)))
        else
          (0 ≤ 4 * ι1 13 0 63 + 2 ∧ 4 * ι1 13 0 63 + 2 < (8100 : Int)) ∧
          (bm_rg (4 * ι1 13 0 63)) ∧
          (bm_rg (4 * ι1 13 0 63 + 3)) ∧
          (bm_rg (64 * r1)) ∧
          (0 ≤ x7 ∧ 0 < (8 : Int)) ∧
          (bm_rg (8 * (x7 % 8))) ∧
          (bm_rg (64 * r1 + 8 * (x7 % 8))) ∧
          (0 ≤ x8 ∧ 0 < (8 : Int)) ∧
          (bm_rg (64 * r1 + 8 * (x7 % 8) + x8 % 8)) ∧
          (0 ≤ 4 * ι1 13 0 63 + 3 ∧ 4 * ι1 13 0 63 + 3 < (8100 : Int)) ∧
          (if (2 : Int) ≤ r1 then
            (0 ≤ ι1 13 0 63 ∧ ι1 13 0 63 < (2100 : Int)) ∧
            (0 ≤ ι1 13 0 63 ∧ ι1 13 0 63 < (2100 : Int)) ∧
            (bm_rg (ι1 13 0 63 + 1)) ∧
            (if x5 = (0 : Int) then
              bW sc 252 252 [br 13 0, bi x1, bi x2, bi x3, bi x4, bi x5, bi x6, bi x7, bi x8, bi r1, v10] [] (up (up (up (up (up (up (up ι1 104 0 (4 * ι1 13 0 63) x1) 104 0 (4 * ι1 13 0 63 + 1) x2) 104 0 (4 * ι1 13 0 63 + 2) 0) 104 0 (4 * ι1 13 0 63 + 3) (64 * r1 + 8 * (x7 % 8) + x8 % 8)) 105 0 (ι1 13 0 63) x6) 106 0 (ι1 13 0 63) x2) 13 0 63 (ι1 13 0 63 + 1)) Q
            else
              (if x6 = (0 : Int) then
                bW sc 252 252 [br 13 0, bi x1, bi x2, bi x3, bi x4, bi x5, bi x6, bi x7, bi x8, bi r1, v10] [] (up (up (up (up (up (up (up ι1 104 0 (4 * ι1 13 0 63) x1) 104 0 (4 * ι1 13 0 63 + 1) x2) 104 0 (4 * ι1 13 0 63 + 2) 0) 104 0 (4 * ι1 13 0 63 + 3) (64 * r1 + 8 * (x7 % 8) + x8 % 8)) 105 0 (ι1 13 0 63) x6) 106 0 (ι1 13 0 63) x2) 13 0 63 (ι1 13 0 63 + 1)) Q
              else
                bW sc 252 217 [br 13 0, bi x1, bi x2, bi x3, bi x4, bi x5, bi x6, bi x7, bi x8, bi r1, bi 0] [] (up (up (up (up (up (up (up ι1 104 0 (4 * ι1 13 0 63) x1) 104 0 (4 * ι1 13 0 63 + 1) x2) 104 0 (4 * ι1 13 0 63 + 2) 0) 104 0 (4 * ι1 13 0 63 + 3) (64 * r1 + 8 * (x7 % 8) + x8 % 8)) 105 0 (ι1 13 0 63) x6) 106 0 (ι1 13 0 63) x2) 13 0 63 (ι1 13 0 63 + 1)) Q))
          else
            (0 ≤ ι1 13 0 63 ∧ ι1 13 0 63 < (2100 : Int)) ∧
            (0 ≤ ι1 13 0 63 ∧ ι1 13 0 63 < (2100 : Int)) ∧
            (bm_rg (ι1 13 0 63 + 1)) ∧
            (if x5 = (0 : Int) then
              bW sc 252 252 [br 13 0, bi x1, bi x2, bi x3, bi x4, bi x5, bi x6, bi x7, bi x8, bi r1, v10] [] (up (up (up (up (up (up (up ι1 104 0 (4 * ι1 13 0 63) x1) 104 0 (4 * ι1 13 0 63 + 1) x2) 104 0 (4 * ι1 13 0 63 + 2) 0) 104 0 (4 * ι1 13 0 63 + 3) (64 * r1 + 8 * (x7 % 8) + x8 % 8)) 105 0 (ι1 13 0 63) (-1)) 106 0 (ι1 13 0 63) x2) 13 0 63 (ι1 13 0 63 + 1)) Q
            else
              (if x6 = (0 : Int) then
                bW sc 252 252 [br 13 0, bi x1, bi x2, bi x3, bi x4, bi x5, bi x6, bi x7, bi x8, bi r1, v10] [] (up (up (up (up (up (up (up ι1 104 0 (4 * ι1 13 0 63) x1) 104 0 (4 * ι1 13 0 63 + 1) x2) 104 0 (4 * ι1 13 0 63 + 2) 0) 104 0 (4 * ι1 13 0 63 + 3) (64 * r1 + 8 * (x7 % 8) + x8 % 8)) 105 0 (ι1 13 0 63) (-1)) 106 0 (ι1 13 0 63) x2) 13 0 63 (ι1 13 0 63 + 1)) Q
              else
                bW sc 252 217 [br 13 0, bi x1, bi x2, bi x3, bi x4, bi x5, bi x6, bi x7, bi x8, bi r1, bi 0] [] (up (up (up (up (up (up (up ι1 104 0 (4 * ι1 13 0 63) x1) 104 0 (4 * ι1 13 0 63 + 1) x2) 104 0 (4 * ι1 13 0 63 + 2) 0) 104 0 (4 * ι1 13 0 63 + 3) (64 * r1 + 8 * (x7 % 8) + x8 % 8)) 105 0 (ι1 13 0 63) (-1)) 106 0 (ι1 13 0 63) x2) 13 0 63 (ι1 13 0 63 + 1)) Q))))
      else
        (0 ≤ 4 * ι1 13 0 63 + 1 ∧ 4 * ι1 13 0 63 + 1 < (8100 : Int)) ∧
        (bm_rg (4 * ι1 13 0 63)) ∧
        (bm_rg (4 * ι1 13 0 63 + 2)) ∧
        (if x4 = (0 : Int) then
          (0 ≤ 4 * ι1 13 0 63 + 2 ∧ 4 * ι1 13 0 63 + 2 < (8100 : Int)) ∧
          (bm_rg (4 * ι1 13 0 63)) ∧
          (bm_rg (4 * ι1 13 0 63 + 3)) ∧
          (bm_rg (64 * r1)) ∧
          (0 ≤ x7 ∧ 0 < (8 : Int)) ∧
          (bm_rg (8 * (x7 % 8))) ∧
          (bm_rg (64 * r1 + 8 * (x7 % 8))) ∧
          (0 ≤ x8 ∧ 0 < (8 : Int)) ∧
          (bm_rg (64 * r1 + 8 * (x7 % 8) + x8 % 8)) ∧
          (0 ≤ 4 * ι1 13 0 63 + 3 ∧ 4 * ι1 13 0 63 + 3 < (8100 : Int)) ∧
          (if (2 : Int) ≤ r1 then
            (0 ≤ ι1 13 0 63 ∧ ι1 13 0 63 < (2100 : Int)) ∧
            (0 ≤ ι1 13 0 63 ∧ ι1 13 0 63 < (2100 : Int)) ∧
            (bm_rg (ι1 13 0 63 + 1)) ∧
            (if x5 = (0 : Int) then
              bW sc 252 252 [br 13 0, bi x1, bi x2, bi x3, bi x4, bi x5, bi x6, bi x7, bi x8, bi r1, v10] [] (up (up (up (up (up (up (up ι1 104 0 (4 * ι1 13 0 63) x1) 104 0 (4 * ι1 13 0 63 + 1) 0) 104 0 (4 * ι1 13 0 63 + 2) x3) 104 0 (4 * ι1 13 0 63 + 3) (64 * r1 + 8 * (x7 % 8) + x8 % 8)) 105 0 (ι1 13 0 63) x6) 106 0 (ι1 13 0 63) x2) 13 0 63 (ι1 13 0 63 + 1)) Q
            else
              (if x6 = (0 : Int) then
                bW sc 252 252 [br 13 0, bi x1, bi x2, bi x3, bi x4, bi x5, bi x6, bi x7, bi x8, bi r1, v10] [] (up (up (up (up (up (up (up ι1 104 0 (4 * ι1 13 0 63) x1) 104 0 (4 * ι1 13 0 63 + 1) 0) 104 0 (4 * ι1 13 0 63 + 2) x3) 104 0 (4 * ι1 13 0 63 + 3) (64 * r1 + 8 * (x7 % 8) + x8 % 8)) 105 0 (ι1 13 0 63) x6) 106 0 (ι1 13 0 63) x2) 13 0 63 (ι1 13 0 63 + 1)) Q
              else
                bW sc 252 217 [br 13 0, bi x1, bi x2, bi x3, bi x4, bi x5, bi x6, bi x7, bi x8, bi r1, bi 0] [] (up (up (up (up (up (up (up ι1 104 0 (4 * ι1 13 0 63) x1) 104 0 (4 * ι1 13 0 63 + 1) 0) 104 0 (4 * ι1 13 0 63 + 2) x3) 104 0 (4 * ι1 13 0 63 + 3) (64 * r1 + 8 * (x7 % 8) + x8 % 8)) 105 0 (ι1 13 0 63) x6) 106 0 (ι1 13 0 63) x2) 13 0 63 (ι1 13 0 63 + 1)) Q))
          else
            (0 ≤ ι1 13 0 63 ∧ ι1 13 0 63 < (2100 : Int)) ∧
            (0 ≤ ι1 13 0 63 ∧ ι1 13 0 63 < (2100 : Int)) ∧
            (bm_rg (ι1 13 0 63 + 1)) ∧
            (if x5 = (0 : Int) then
              bW sc 252 252 [br 13 0, bi x1, bi x2, bi x3, bi x4, bi x5, bi x6, bi x7, bi x8, bi r1, v10] [] (up (up (up (up (up (up (up ι1 104 0 (4 * ι1 13 0 63) x1) 104 0 (4 * ι1 13 0 63 + 1) 0) 104 0 (4 * ι1 13 0 63 + 2) x3) 104 0 (4 * ι1 13 0 63 + 3) (64 * r1 + 8 * (x7 % 8) + x8 % 8)) 105 0 (ι1 13 0 63) (-1)) 106 0 (ι1 13 0 63) x2) 13 0 63 (ι1 13 0 63 + 1)) Q
            else
              (if x6 = (0 : Int) then
                bW sc 252 252 [br 13 0, bi x1, bi x2, bi x3, bi x4, bi x5, bi x6, bi x7, bi x8, bi r1, v10] [] (up (up (up (up (up (up (up ι1 104 0 (4 * ι1 13 0 63) x1) 104 0 (4 * ι1 13 0 63 + 1) 0) 104 0 (4 * ι1 13 0 63 + 2) x3) 104 0 (4 * ι1 13 0 63 + 3) (64 * r1 + 8 * (x7 % 8) + x8 % 8)) 105 0 (ι1 13 0 63) (-1)) 106 0 (ι1 13 0 63) x2) 13 0 63 (ι1 13 0 63 + 1)) Q
              else
                bW sc 252 217 [br 13 0, bi x1, bi x2, bi x3, bi x4, bi x5, bi x6, bi x7, bi x8, bi r1, bi 0] [] (up (up (up (up (up (up (up ι1 104 0 (4 * ι1 13 0 63) x1) 104 0 (4 * ι1 13 0 63 + 1) 0) 104 0 (4 * ι1 13 0 63 + 2) x3) 104 0 (4 * ι1 13 0 63 + 3) (64 * r1 + 8 * (x7 % 8) + x8 % 8)) 105 0 (ι1 13 0 63) (-1)) 106 0 (ι1 13 0 63) x2) 13 0 63 (ι1 13 0 63 + 1)) Q)))
        else
          (0 ≤ 4 * ι1 13 0 63 + 2 ∧ 4 * ι1 13 0 63 + 2 < (8100 : Int)) ∧
          (bm_rg (4 * ι1 13 0 63)) ∧
          (bm_rg (4 * ι1 13 0 63 + 3)) ∧
          (bm_rg (64 * r1)) ∧
          (0 ≤ x7 ∧ 0 < (8 : Int)) ∧
          (bm_rg (8 * (x7 % 8))) ∧
          (bm_rg (64 * r1 + 8 * (x7 % 8))) ∧
          (0 ≤ x8 ∧ 0 < (8 : Int)) ∧
          (bm_rg (64 * r1 + 8 * (x7 % 8) + x8 % 8)) ∧
          (0 ≤ 4 * ι1 13 0 63 + 3 ∧ 4 * ι1 13 0 63 + 3 < (8100 : Int)) ∧
          (if (2 : Int) ≤ r1 then
            (0 ≤ ι1 13 0 63 ∧ ι1 13 0 63 < (2100 : Int)) ∧
            (0 ≤ ι1 13 0 63 ∧ ι1 13 0 63 < (2100 : Int)) ∧
            (bm_rg (ι1 13 0 63 + 1)) ∧
            (if x5 = (0 : Int) then
              bW sc 252 252 [br 13 0, bi x1, bi x2, bi x3, bi x4, bi x5, bi x6, bi x7, bi x8, bi r1, v10] [] (up (up (up (up (up (up (up ι1 104 0 (4 * ι1 13 0 63) x1) 104 0 (4 * ι1 13 0 63 + 1) 0) 104 0 (4 * ι1 13 0 63 + 2) 0) 104 0 (4 * ι1 13 0 63 + 3) (64 * r1 + 8 * (x7 % 8) + x8 % 8)) 105 0 (ι1 13 0 63) x6) 106 0 (ι1 13 0 63) x2) 13 0 63 (ι1 13 0 63 + 1)) Q
            else
              (if x6 = (0 : Int) then
                bW sc 252 252 [br 13 0, bi x1, bi x2, bi x3, bi x4, bi x5, bi x6, bi x7, bi x8, bi r1, v10] [] (up (up (up (up (up (up (up ι1 104 0 (4 * ι1 13 0 63) x1) 104 0 (4 * ι1 13 0 63 + 1) 0) 104 0 (4 * ι1 13 0 63 + 2) 0) 104 0 (4 * ι1 13 0 63 + 3) (64 * r1 + 8 * (x7 % 8) + x8 % 8)) 105 0 (ι1 13 0 63) x6) 106 0 (ι1 13 0 63) x2) 13 0 63 (ι1 13 0 63 + 1)) Q
              else
                bW sc 252 217 [br 13 0, bi x1, bi x2, bi x3, bi x4, bi x5, bi x6, bi x7, bi x8, bi r1, bi 0] [] (up (up (up (up (up (up (up ι1 104 0 (4 * ι1 13 0 63) x1) 104 0 (4 * ι1 13 0 63 + 1) 0) 104 0 (4 * ι1 13 0 63 + 2) 0) 104 0 (4 * ι1 13 0 63 + 3) (64 * r1 + 8 * (x7 % 8) + x8 % 8)) 105 0 (ι1 13 0 63) x6) 106 0 (ι1 13 0 63) x2) 13 0 63 (ι1 13 0 63 + 1)) Q))
          else
            (0 ≤ ι1 13 0 63 ∧ ι1 13 0 63 < (2100 : Int)) ∧
            (0 ≤ ι1 13 0 63 ∧ ι1 13 0 63 < (2100 : Int)) ∧
            (bm_rg (ι1 13 0 63 + 1)) ∧
            (if x5 = (0 : Int) then
              bW sc 252 252 [br 13 0, bi x1, bi x2, bi x3, bi x4, bi x5, bi x6, bi x7, bi x8, bi r1, v10] [] (up (up (up (up (up (up (up ι1 104 0 (4 * ι1 13 0 63) x1) 104 0 (4 * ι1 13 0 63 + 1) 0) 104 0 (4 * ι1 13 0 63 + 2) 0) 104 0 (4 * ι1 13 0 63 + 3) (64 * r1 + 8 * (x7 % 8) + x8 % 8)) 105 0 (ι1 13 0 63) (-1)) 106 0 (ι1 13 0 63) x2) 13 0 63 (ι1 13 0 63 + 1)) Q
            else
              (if x6 = (0 : Int) then
                bW sc 252 252 [br 13 0, bi x1, bi x2, bi x3, bi x4, bi x5, bi x6, bi x7, bi x8, bi r1, v10] [] (up (up (up (up (up (up (up ι1 104 0 (4 * ι1 13 0 63) x1) 104 0 (4 * ι1 13 0 63 + 1) 0) 104 0 (4 * ι1 13 0 63 + 2) 0) 104 0 (4 * ι1 13 0 63 + 3) (64 * r1 + 8 * (x7 % 8) + x8 % 8)) 105 0 (ι1 13 0 63) (-1)) 106 0 (ι1 13 0 63) x2) 13 0 63 (ι1 13 0 63 + 1)) Q
              else
                bW sc 252 217 [br 13 0, bi x1, bi x2, bi x3, bi x4, bi x5, bi x6, bi x7, bi x8, bi r1, bi 0] [] (up (up (up (up (up (up (up ι1 104 0 (4 * ι1 13 0 63) x1) 104 0 (4 * ι1 13 0 63 + 1) 0) 104 0 (4 * ι1 13 0 63 + 2) 0) 104 0 (4 * ι1 13 0 63 + 3) (64 * r1 + 8 * (x7 % 8) + x8 % 8)) 105 0 (ι1 13 0 63) (-1)) 106 0 (ι1 13 0 63) x2) 13 0 63 (ι1 13 0 63 + 1)) Q)))))) (bq Q))) :
  bW sc 252 57 [br 13 0, bi x1, bi x2, bi x3, bi x4, bi x5, bi x6, bi x7, bi x8, v9, v10] [] ι Q := bm_snd 252 [57, 217, 252] 93 h
set_option maxRecDepth 100000 in
theorem e_M_addCommand_217 {sc : bm_Sc} {Q : bm_O → bm_S → Prop} {v1 : bm_V} {v2 : bm_V} {x3 : Int} {v4 : bm_V} {v5 : bm_V} {v6 : bm_V} {v7 : bm_V} {v8 : bm_V} {v9 : bm_V} {x10 : Int} {ι : bm_S}
  (h : (if (3 : Int) ≤ x10 then
      (0 ≤ (3 : Int) ∧ (3 : Int) < (4 : Int)) ∧
      bW sc 252 252 [br 13 0, v1, v2, bi x3, v4, v5, v6, v7, v8, v9, bi x10] [] (up ι 107 0 3 x3) Q
    else
      (bm_rg (x10 + 1)) ∧
      (0 ≤ x10 + 1 ∧ x10 + 1 < (4 : Int)) ∧
      (0 ≤ x10 ∧ x10 < (4 : Int)) ∧
      (bm_rg (x10 + 1)) ∧
      bW sc 252 217 [br 13 0, v1, v2, bi x3, v4, v5, v6, v7, v8, v9, bi (x10 + 1)] [] (up ι 107 0 x10 (ι 107 0 (x10 + 1))) Q)) :
  bW sc 252 217 [br 13 0, v1, v2, bi x3, v4, v5, v6, v7, v8, v9, bi x10] [] ι Q := bm_snd 252 [57, 217, 252] 16 h
set_option maxRecDepth 100000 in
theorem e_M_addCommand_252 {sc : bm_Sc} {Q : bm_O → bm_S → Prop} {v0 : bm_V} {v1 : bm_V} {v2 : bm_V} {v3 : bm_V} {v4 : bm_V} {v5 : bm_V} {v6 : bm_V} {v7 : bm_V} {v8 : bm_V} {v9 : bm_V} {v10 : bm_V} {ι : bm_S}
  (h : Q (.inl none) ι) :
  bW sc 252 252 [v0, v1, v2, v3, v4, v5, v6, v7, v8, v9, v10] [] ι Q := bm_snd 252 [57, 217, 252] 1 h
-- M_findCommands
set_option maxRecDepth 100000 in
theorem e_M_findCommands_0 {sc : bm_Sc} {Q : bm_O → bm_S → Prop}  {ι : bm_S}
  (h : (0 ≤ (0 : Int) ∧ (0 : Int) < (4 : Int)) ∧
    (0 ≤ (1 : Int) ∧ (1 : Int) < (4 : Int)) ∧
    (0 ≤ (2 : Int) ∧ (2 : Int) < (4 : Int)) ∧
    (0 ≤ (3 : Int) ∧ (3 : Int) < (4 : Int)) ∧
    bW sc 253 40 [br 13 0, bi 0, bi 0, bu, bu] [] (up (up (up (up (up ι 13 0 63 0) 107 0 0 16) 107 0 1 15) 107 0 2 11) 107 0 3 4) Q) :
  bC sc 253 [br 13 0] ι Q := bm_snd 253 [40] 28 h
set_option maxRecDepth 100000 in
theorem e_M_findCommands_40 {sc : bm_Sc} {Q : bm_O → bm_S → Prop} {x1 : Int} {x2 : Int} {v3 : bm_V} {v4 : bm_V} {ι : bm_S}
  (h : (if ι 13 0 59 ≤ x2 then
      (if ι 13 0 59 ≤ x1 then
        Q (.inl none) ι
      else
        (bm_rg (ι 13 0 59 - x1)) ∧
        bC sc 252 [br 13 0, bi (ι 13 0 59 - x1), bi 2, bi 0, bi 1, bi 0] ι (bk0 (fun ι1 => 
          Q (.inl none) ι1) (bq Q)))
    else
      bC sc 247 [br 13 0, bi x2] ι (bk1 (fun r2 ι2 => 
        (0 ≤ x2 ∧ x2 < (2001 : Int)) ∧
        (if ι2 102 0 x2 = (1 : Int) then
          (bm_rg (x2 - x1)) ∧
          (0 ≤ x2 ∧ x2 < (2001 : Int)) ∧
          (0 ≤ x2 ∧ x2 < (2001 : Int)) ∧
          bC sc 252 [br 13 0, bi (x2 - x1), bi (ι2 96 0 x2), bi (ι2 97 0 x2), bi 0, bi 1] ι2 (bk0 (fun ι5 => 
            (bm_rg (x2 + r2)) ∧
            (if r2 = (1 : Int) then
              (bm_rg (x2 + r2 - 1)) ∧
              (0 ≤ x2 + r2 - 1 ∧ x2 + r2 - 1 < (2001 : Int)) ∧
              (if ι5 102 0 (x2 + r2 - 1) = (0 : Int) then
                bW sc 253 40 [br 13 0, bi x1, bi (x2 + r2), bi r2, v4] [] ι5 Q
              else
                bW sc 253 40 [br 13 0, bi (x2 + r2), bi (x2 + r2), bi r2, v4] [] ι5 Q)
            else
              bW sc 253 40 [br 13 0, bi (x2 + r2), bi (x2 + r2), bi r2, v4] [] ι5 Q)) (bq Q))
        else
          (0 ≤ x2 ∧ x2 < (2001 : Int)) ∧
          (if ι2 102 0 x2 = (2 : Int) then
            (0 ≤ x2 ∧ x2 < (2001 : Int)) ∧
            (0 ≤ x2 ∧ x2 < (2001 : Int)) ∧
            bC sc 166 [br 13 0, bi (ι2 99 0 x2)] ι2 (bk1 (fun r3 ι3 => 
              ((0 ≤ r3 ∧ r3 < 32) ∧ bm_rg (ι2 101 0 x2 * bm_p2 r3)) ∧
              (0 ≤ x2 ∧ x2 < (2001 : Int)) ∧
              (bm_rg (ι2 101 0 x2 * bm_p2 r3 + ι3 100 0 x2)) ∧
              (bm_rg (x2 - x1)) ∧
              (0 ≤ x2 ∧ x2 < (2001 : Int)) ∧
              (bm_rg (x2 + 1)) ∧
              (bm_rg (x2 + 1 + (ι2 101 0 x2 * bm_p2 r3 + ι3 100 0 x2))) ∧
              bC sc 252 [br 13 0, bi (x2 - x1), bi (ι3 99 0 x2), bi (x2 + 1 + (ι2 101 0 x2 * bm_p2 r3 + ι3 100 0 x2)), bi 0, bi 0] ι3 (bk0 (fun ι4 => 
                (bm_rg (x2 + r2)) ∧
                (if r2 = (1 : Int) then
                  (bm_rg (x2 + r2 - 1)) ∧
                  (0 ≤ x2 + r2 - 1 ∧ x2 + r2 - 1 < (2001 : Int)) ∧
                  (if ι4 102 0 (x2 + r2 - 1) = (0 : Int) then
                    bW sc 253 40 [br 13 0, bi x1, bi (x2 + r2), bi r2, bi (ι2 101 0 x2 * bm_p2 r3 + ι3 100 0 x2)] [] ι4 Q
                  else
                    bW sc 253 40 [br 13 0, bi (x2 + r2), bi (x2 + r2), bi r2, bi (ι2 101 0 x2 * bm_p2 r3 + ι3 100 0 x2)] [] ι4 Q)
                else
                  bW sc 253 40 [br 13 0, bi (x2 + r2), bi (x2 + r2), bi r2, bi (ι2 101 0 x2 * bm_p2 r3 + ι3 100 0 x2)] [] ι4 Q)) (bq Q))) (bq Q))
          else
            (bm_rg (x2 + r2)) ∧
            (if r2 = (1 : Int) then
              (bm_rg (x2 + r2 - 1)) ∧
              (0 ≤ x2 + r2 - 1 ∧ x2 + r2 - 1 < (2001 : Int)) ∧
              (if ι2 102 0 (x2 + r2 - 1) = (0 : Int) then
                bW sc 253 40 [br 13 0, bi x1, bi (x2 + r2), bi r2, v4] [] ι2 Q
              else
                bW sc 253 40 [br 13 0, bi (x2 + r2), bi (x2 + r2), bi r2, v4] [] ι2 Q)
            else
              bW sc 253 40 [br 13 0, bi (x2 + r2), bi (x2 + r2), bi r2, v4] [] ι2 Q)))) (bq Q)))) :
  bW sc 253 40 [br 13 0, bi x1, bi x2, v3, v4] [] ι Q := bm_snd 253 [40] 72 h
-- M_countSigns
set_option maxRecDepth 100000 in
theorem e_M_countSigns_0 {sc : bm_Sc} {Q : bm_O → bm_S → Prop}  {ι : bm_S}
  (h : bW sc 254 2 [br 13 0, bi 0] [] ι Q) :
  bC sc 254 [br 13 0] ι Q := bm_snd 254 [2] 3 h
set_option maxRecDepth 100000 in
theorem e_M_countSigns_2 {sc : bm_Sc} {Q : bm_O → bm_S → Prop} {x1 : Int} {ι : bm_S}
  (h : (if (1024 : Int) ≤ x1 then
      Q (.inl none) ι
    else
      (0 ≤ x1 ∧ x1 < (1024 : Int)) ∧
      (bm_rg (x1 + 1)) ∧
      bW sc 254 2 [br 13 0, bi (x1 + 1)] [] (up ι 93 0 x1 0) Q)) :
  bW sc 254 2 [br 13 0, bi x1] [] ι Q := bm_snd 254 [2] 11 h
-- M_writeCodes
set_option maxRecDepth 100000 in
theorem e_M_writeCodes_0 {sc : bm_Sc} {Q : bm_O → bm_S → Prop}  {ι : bm_S}
  (h : bC sc 254 [br 13 0] ι (bk0 (fun ι1 => 
      bW sc 255 6 [br 13 0, bi 0] [] ι1 Q) (bq Q))) :
  bC sc 255 [br 13 0] ι Q := bm_snd 255 [6, 68, 117] 5 h
set_option maxRecDepth 100000 in
theorem e_M_writeCodes_6 {sc : bm_Sc} {Q : bm_O → bm_S → Prop} {x1 : Int} {ι : bm_S}
  (h : (if ι 13 0 59 ≤ x1 then
      bC sc 244 [br 13 0, bi 120, bi 256] ι (bk0 (fun ι1 => 
        bC sc 254 [br 13 0] ι1 (bk0 (fun ι2 => 
          bW sc 255 68 [br 13 0, bi 0] [] ι2 Q) (bq Q))) (bq Q))
    else
      (0 ≤ x1 ∧ x1 < (2001 : Int)) ∧
      (if ι 102 0 x1 = (0 : Int) then
        (0 ≤ x1 ∧ x1 < (2440 : Int)) ∧
        (0 ≤ ι 74 0 x1 % 256 ∧ ι 74 0 x1 % 256 < (1024 : Int)) ∧
        (bm_rg (ι 93 0 (ι 74 0 x1 % 256) + 1)) ∧
        (0 ≤ ι 74 0 x1 % 256 ∧ ι 74 0 x1 % 256 < (1024 : Int)) ∧
        bC sc 247 [br 13 0, bi x1] (up ι 93 0 (ι 74 0 x1 % 256) (ι 93 0 (ι 74 0 x1 % 256) + 1)) (bk1 (fun r4 ι4 => 
          (bm_rg (x1 + r4)) ∧
          bW sc 255 6 [br 13 0, bi (x1 + r4)] [] ι4 Q) (bq Q))
      else
        bC sc 247 [br 13 0, bi x1] ι (bk1 (fun r3 ι3 => 
          (bm_rg (x1 + r3)) ∧
          bW sc 255 6 [br 13 0, bi (x1 + r3)] [] ι3 Q) (bq Q))))) :
  bW sc 255 6 [br 13 0, bi x1] [] ι Q := bm_snd 255 [6, 68, 117] 30 h
set_option maxRecDepth 100000 in
theorem e_M_writeCodes_68 {sc : bm_Sc} {Q : bm_O → bm_S → Prop} {x1 : Int} {ι : bm_S}
  (h : (if ι 13 0 63 ≤ x1 then
      bC sc 244 [br 13 0, bi 3192, bi 704] ι (bk0 (fun ι1 => 
        bC sc 254 [br 13 0] ι1 (bk0 (fun ι2 => 
          bW sc 255 117 [br 13 0, bi 0] [] ι2 Q) (bq Q))) (bq Q))
    else
      (bm_rg (4 * x1)) ∧
      (bm_rg (4 * x1 + 3)) ∧
      (0 ≤ 4 * x1 + 3 ∧ 4 * x1 + 3 < (8100 : Int)) ∧
      (0 ≤ ι 104 0 (4 * x1 + 3) ∧ ι 104 0 (4 * x1 + 3) < (1024 : Int)) ∧
      (bm_rg (ι 93 0 (ι 104 0 (4 * x1 + 3)) + 1)) ∧
      (0 ≤ ι 104 0 (4 * x1 + 3) ∧ ι 104 0 (4 * x1 + 3) < (1024 : Int)) ∧
      (bm_rg (x1 + 1)) ∧
      bW sc 255 68 [br 13 0, bi (x1 + 1)] [] (up ι 93 0 (ι 104 0 (4 * x1 + 3)) (ι 93 0 (ι 104 0 (4 * x1 + 3)) + 1)) Q)) :
  bW sc 255 68 [br 13 0, bi x1] [] ι Q := bm_snd 255 [6, 68, 117] 22 h
set_option maxRecDepth 100000 in
theorem e_M_writeCodes_117 {sc : bm_Sc} {Q : bm_O → bm_S → Prop} {x1 : Int} {ι : bm_S}
  (h : (if ι 13 0 63 ≤ x1 then
      bC sc 244 [br 13 0, bi 11640, bi 64] ι (bk0 (fun ι1 => 
        Q (.inl none) ι1) (bq Q))
    else
      (0 ≤ x1 ∧ x1 < (2100 : Int)) ∧
      (if ι 105 0 x1 < (0 : Int) then
        (bm_rg (x1 + 1)) ∧
        bW sc 255 117 [br 13 0, bi (x1 + 1)] [] ι Q
      else
        (0 ≤ x1 ∧ x1 < (2100 : Int)) ∧
        (0 ≤ ι 105 0 x1 ∧ ι 105 0 x1 < (1024 : Int)) ∧
        (bm_rg (ι 93 0 (ι 105 0 x1) + 1)) ∧
        (0 ≤ ι 105 0 x1 ∧ ι 105 0 x1 < (1024 : Int)) ∧
        (bm_rg (x1 + 1)) ∧
        bW sc 255 117 [br 13 0, bi (x1 + 1)] [] (up ι 93 0 (ι 105 0 x1) (ι 93 0 (ι 105 0 x1) + 1)) Q))) :
  bW sc 255 117 [br 13 0, bi x1] [] ι Q := bm_snd 255 [6, 68, 117] 23 h
-- M_writeCommands
set_option maxRecDepth 100000 in
theorem e_M_writeCommands_0 {sc : bm_Sc} {Q : bm_O → bm_S → Prop}  {ι : bm_S}
  (h : bW sc 256 4 [br 13 0, bi 0, bi 0, bu, bu, bu, bu, bu] [] ι Q) :
  bC sc 256 [br 13 0] ι Q := bm_snd 256 [4, 97] 5 h
set_option maxRecDepth 100000 in
theorem e_M_writeCommands_4 {sc : bm_Sc} {Q : bm_O → bm_S → Prop} {x1 : Int} {x2 : Int} {v3 : bm_V} {v4 : bm_V} {v5 : bm_V} {v6 : bm_V} {v7 : bm_V} {ι : bm_S}
  (h : (if ι 13 0 63 ≤ x2 then
      Q (.inl none) ι
    else
      (bm_rg (4 * x2)) ∧
      (0 ≤ 4 * x2 ∧ 4 * x2 < (8100 : Int)) ∧
      bC sc 249 [bi (ι 104 0 (4 * x2)), bi 1] ι (bk1 (fun r1 ι1 => 
        (0 ≤ x2 ∧ x2 < (2100 : Int)) ∧
        bC sc 249 [bi (ι1 106 0 x2), bi 0] ι1 (bk1 (fun r2 ι2 => 
          (bm_rg (4 * x2)) ∧
          (bm_rg (4 * x2 + 3)) ∧
          (0 ≤ 4 * x2 + 3 ∧ 4 * x2 + 3 < (8100 : Int)) ∧
          bC sc 236 [br 13 0, bi 3192, bi (ι2 104 0 (4 * x2 + 3))] ι2 (bk0 (fun ι3 => 
            bC sc 202 [bi r1] ι3 (bk1 (fun r4 ι4 => 
              (bm_rg (ι 104 0 (4 * x2) - r4)) ∧
              bC sc 200 [bi r1] ι4 (bk1 (fun r5 ι5 => 
                bC sc 234 [br 13 0, bi (ι 104 0 (4 * x2) - r4), bi r5] ι5 (bk0 (fun ι6 => 
                  (0 ≤ x2 ∧ x2 < (2100 : Int)) ∧
                  bC sc 203 [bi r2] ι6 (bk1 (fun r7 ι7 => 
                    (bm_rg (ι6 106 0 x2 - r7)) ∧
                    bC sc 201 [bi r2] ι7 (bk1 (fun r8 ι8 => 
                      bC sc 234 [br 13 0, bi (ι6 106 0 x2 - r7), bi r8] ι8 (bk0 (fun ι9 => 
                        bW sc 256 97 [br 13 0, bi x1, bi x2, bi (ι 104 0 (4 * x2)), bi r1, bi r2, bi 0, v7] [] ι9 Q) (bq Q))) (bq Q))) (bq Q))) (bq Q))) (bq Q))) (bq Q))) (bq Q))) (bq Q))) (bq Q)))) :
  bW sc 256 4 [br 13 0, bi x1, bi x2, v3, v4, v5, v6, v7] [] ι Q := bm_snd 256 [4, 97] 55 h
set_option maxRecDepth 100000 in
theorem e_M_writeCommands_97 {sc : bm_Sc} {Q : bm_O → bm_S → Prop} {x1 : Int} {x2 : Int} {x3 : Int} {v4 : bm_V} {v5 : bm_V} {x6 : Int} {v7 : bm_V} {ι : bm_S}
  (h : (if x3 ≤ x6 then
      (0 ≤ x2 ∧ x2 < (2100 : Int)) ∧
      (if ι 105 0 x2 < (0 : Int) then
        (if ι 13 0 59 ≤ x1 then
          (bm_rg (x2 + 1)) ∧
          bW sc 256 4 [br 13 0, bi x1, bi (x2 + 1), bi x3, v4, v5, bi (ι 105 0 x2), v7] [] ι Q
        else
          bC sc 247 [br 13 0, bi x1] ι (bk1 (fun r1 ι1 => 
            (bm_rg (x1 + r1)) ∧
            (bm_rg (x2 + 1)) ∧
            bW sc 256 4 [br 13 0, bi (x1 + r1), bi (x2 + 1), bi x3, v4, v5, bi (ι 105 0 x2), v7] [] ι1 Q) (bq Q)))
      else
        bC sc 236 [br 13 0, bi 11640, bi (ι 105 0 x2)] ι (bk0 (fun ι2 => 
          (if ι 105 0 x2 ≤ (15 : Int) then
            (if ι2 13 0 59 ≤ x1 then
              (bm_rg (x2 + 1)) ∧
              bW sc 256 4 [br 13 0, bi x1, bi (x2 + 1), bi x3, v4, v5, bi (ι 105 0 x2), v7] [] ι2 Q
            else
              bC sc 247 [br 13 0, bi x1] ι2 (bk1 (fun r3 ι3 => 
                (bm_rg (x1 + r3)) ∧
                (bm_rg (x2 + 1)) ∧
                bW sc 256 4 [br 13 0, bi (x1 + r3), bi (x2 + 1), bi x3, v4, v5, bi (ι 105 0 x2), v7] [] ι3 Q) (bq Q)))
          else
            (bm_rg (ι 105 0 x2 - 16)) ∧
            (0 ≤ ι 105 0 x2 - 16 ∧ 0 < (2 : Int)) ∧
            (bm_rg (1 + (ι 105 0 x2 - 16) / 2)) ∧
            (bm_rg (4 * x2)) ∧
            (bm_rg (4 * x2 + 2)) ∧
            (0 ≤ 4 * x2 + 2 ∧ 4 * x2 + 2 < (8100 : Int)) ∧
            (bm_rg (ι2 104 0 (4 * x2 + 2) + 3)) ∧
            ((0 ≤ 1 + (ι 105 0 x2 - 16) / 2 ∧ 1 + (ι 105 0 x2 - 16) / 2 < 32) ∧ bm_rg (1 * bm_p2 (1 + (ι 105 0 x2 - 16) / 2))) ∧
            (bm_rg (1 * bm_p2 (1 + (ι 105 0 x2 - 16) / 2) - 1)) ∧
            bC sc 234 [br 13 0, bi (bm_band (ι2 104 0 (4 * x2 + 2) + 3) (1 * bm_p2 (1 + (ι 105 0 x2 - 16) / 2) - 1)), bi (1 + (ι 105 0 x2 - 16) / 2)] ι2 (bk0 (fun ι4 => 
              (if ι4 13 0 59 ≤ x1 then
                (bm_rg (x2 + 1)) ∧
                bW sc 256 4 [br 13 0, bi x1, bi (x2 + 1), bi x3, v4, v5, bi (ι 105 0 x2), bi (1 + (ι 105 0 x2 - 16) / 2)] [] ι4 Q
              else
                bC sc 247 [br 13 0, bi x1] ι4 (bk1 (fun r5 ι5 => 
                  (bm_rg (x1 + r5)) ∧
                  (bm_rg (x2 + 1)) ∧
                  bW sc 256 4 [br 13 0, bi (x1 + r5), bi (x2 + 1), bi x3, v4, v5, bi (ι 105 0 x2), bi (1 + (ι 105 0 x2 - 16) / 2)] [] ι5 Q) (bq Q)))) (bq Q)))) (bq Q)))
    else
      (0 ≤ x1 ∧ x1 < (2440 : Int)) ∧
      bC sc 236 [br 13 0, bi 120, bi (ι 74 0 x1 % 256)] ι (bk0 (fun ι6 => 
        (bm_rg (x1 + 1)) ∧
        (bm_rg (x6 + 1)) ∧
        bW sc 256 97 [br 13 0, bi (x1 + 1), bi x2, bi x3, v4, v5, bi (x6 + 1), v7] [] ι6 Q) (bq Q)))) :
  bW sc 256 97 [br 13 0, bi x1, bi x2, bi x3, v4, v5, bi x6, v7] [] ι Q := bm_snd 256 [4, 97] 58 h
-- M_packRaw
set_option maxRecDepth 100000 in
theorem e_M_packRaw_0 {sc : bm_Sc} {Q : bm_O → bm_S → Prop}  {ι : bm_S}
  (h : (if ι 13 0 59 ≤ (0 : Int) then
      bC sc 234 [br 13 0, bi 3, bi 2] ι (bk0 (fun ι1 => 
        Q (.inl none) ι1) (bq Q))
    else
      bC sc 234 [br 13 0, bi 0, bi 1] ι (bk0 (fun ι2 => 
        bC sc 234 [br 13 0, bi 0, bi 2] ι2 (bk0 (fun ι3 => 
          (bm_rg (ι3 13 0 59 - 1)) ∧
          bC sc 234 [br 13 0, bi (ι3 13 0 59 - 1), bi 16] ι3 (bk0 (fun ι4 => 
            bC sc 234 [br 13 0, bi 1, bi 1] ι4 (bk0 (fun ι5 => 
              bC sc 235 [br 13 0] ι5 (bk0 (fun ι6 => 
                bW sc 257 43 [br 13 0, bi 0] [] ι6 Q) (bq Q))) (bq Q))) (bq Q))) (bq Q))) (bq Q)))) :
  bC sc 257 [br 13 0] ι Q := bm_snd 257 [43] 27 h
set_option maxRecDepth 100000 in
theorem e_M_packRaw_43 {sc : bm_Sc} {Q : bm_O → bm_S → Prop} {x1 : Int} {ι : bm_S}
  (h : (if ι 13 0 59 ≤ x1 then
      bC sc 234 [br 13 0, bi 3, bi 2] ι (bk0 (fun ι1 => 
        Q (.inl none) ι1) (bq Q))
    else
      (0 ≤ x1 ∧ x1 < (2440 : Int)) ∧
      bC sc 234 [br 13 0, bi (ι 74 0 x1 % 256), bi 8] ι (bk0 (fun ι2 => 
        (bm_rg (x1 + 1)) ∧
        bW sc 257 43 [br 13 0, bi (x1 + 1)] [] ι2 Q) (bq Q)))) :
  bW sc 257 43 [br 13 0, bi x1] [] ι Q := bm_snd 257 [43] 16 h
-- M_packCoded
set_option maxRecDepth 100000 in
theorem e_M_packCoded_0 {sc : bm_Sc} {Q : bm_O → bm_S → Prop} {x1 : Int} {ι : bm_S}
  (h : (if ι 13 0 59 = (0 : Int) then
      bC sc 234 [br 13 0, bi 3, bi 2] ι (bk0 (fun ι14 => 
        Q (.inl none) ι14) (bq Q))
    else
      bC sc 248 [br 13 0, bi x1] ι (bk0 (fun ι1 => 
        bC sc 253 [br 13 0] ι1 (bk0 (fun ι2 => 
          bC sc 234 [br 13 0, bi 1, bi 1] ι2 (bk0 (fun ι3 => 
            bC sc 234 [br 13 0, bi 0, bi 1] ι3 (bk0 (fun ι4 => 
              bC sc 234 [br 13 0, bi 0, bi 2] ι4 (bk0 (fun ι5 => 
                (bm_rg (ι5 13 0 59 - 1)) ∧
                bC sc 234 [br 13 0, bi (ι5 13 0 59 - 1), bi 16] ι5 (bk0 (fun ι6 => 
                  bC sc 234 [br 13 0, bi 0, bi 3] ι6 (bk0 (fun ι7 => 
                    bC sc 234 [br 13 0, bi 0, bi 2] ι7 (bk0 (fun ι8 => 
                      bC sc 234 [br 13 0, bi 0, bi 4] ι8 (bk0 (fun ι9 => 
                        bC sc 234 [br 13 0, bi 0, bi 2] ι9 (bk0 (fun ι10 => 
                          bC sc 234 [br 13 0, bi 0, bi 2] ι10 (bk0 (fun ι11 => 
                            bC sc 255 [br 13 0] ι11 (bk0 (fun ι12 => 
                              bC sc 256 [br 13 0] ι12 (bk0 (fun ι13 => 
                                Q (.inl none) ι13) (bq Q))) (bq Q))) (bq Q))) (bq Q))) (bq Q))) (bq Q))) (bq Q))) (bq Q))) (bq Q))) (bq Q))) (bq Q))) (bq Q))) (bq Q)))) :
  bC sc 258 [br 13 0, bi x1] ι Q := bm_snd 258 [] 52 h
-- M_pack
set_option maxRecDepth 100000 in
theorem e_M_pack_0 {sc : bm_Sc} {Q : bm_O → bm_S → Prop} {x1 : Int} {ι : bm_S}
  (h : (if (if (0 : Int) ≤ x1 ∧ x1 ≤ (2 : Int) then (1 : Int) else 0) = (0 : Int) then
      Q (.inl (some (bi (-1)))) (up ι 13 0 0 0)
    else
      (if ι 13 0 3 ≤ (2000 : Int) then
        bW sc 259 31 [br 13 0, bi x1, bi 0] [] (up ι 13 0 0 0) Q
      else
        Q (.inl (some (bi (-1)))) (up ι 13 0 0 0)))) :
  bC sc 259 [br 13 0, bi x1] ι Q := bm_snd 259 [31] 16 h
set_option maxRecDepth 100000 in
theorem e_M_pack_31 {sc : bm_Sc} {Q : bm_O → bm_S → Prop} {x1 : Int} {x2 : Int} {ι : bm_S}
  (h : (if ι 13 0 3 ≤ x2 then
      bC sc 158 [br 13 0] (up ι 13 0 59 (ι 13 0 3)) (bk0 (fun ι1 => 
        bC sc 164 [br 13 0] (up (up (up ι1 13 0 6 0) 13 0 43 0) 13 0 63 0) (bk1 (fun r2 ι2 => 
          bC sc 234 [br 13 0, bi r2, bi 16] ι2 (bk0 (fun ι3 => 
            bC sc 234 [br 13 0, bi 0, bi 1] ι3 (bk0 (fun ι4 => 
              (if x1 = (0 : Int) then
                bC sc 257 [br 13 0] ι4 (bk0 (fun ι6 => 
                  Q (.inl (some (bi (ι6 13 0 6)))) ι6) (bq Q))
              else
                bC sc 258 [br 13 0, bi x1] ι4 (bk0 (fun ι5 => 
                  Q (.inl (some (bi (ι5 13 0 6)))) ι5) (bq Q)))) (bq Q))) (bq Q))) (bq Q))) (bq Q))
    else
      (0 ≤ x2 ∧ x2 < (2440 : Int)) ∧
      (0 ≤ x2 ∧ x2 < (2440 : Int)) ∧
      (bm_rg (x2 + 1)) ∧
      bW sc 259 31 [br 13 0, bi x1, bi (x2 + 1)] [] (up ι 74 0 x2 (bm_byte (ι 66 0 x2))) Q)) :
  bW sc 259 31 [br 13 0, bi x1, bi x2] [] ι Q := bm_snd 259 [31] 36 h
