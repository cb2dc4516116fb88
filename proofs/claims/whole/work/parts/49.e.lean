set_option maxRecDepth 100000 in
theorem e_M_writeCode_43 {sc : bm_Sc} {Q : bm_O → bm_S → Prop} {v1 : bm_V} {v2 : bm_V} {v3 : bm_V} {x4 : Int} {v5 : bm_V} {v6 : bm_V} {v7 : bm_V} {ι : bm_S}
  (h : (if (18 : Int) ≤ x4 then
      bW sc 244 67 [br 13 0, v1, v2, v3, bi 0, v5, v6, v7] [] ι Q
    else
      (0 ≤ x4 ∧ x4 < (1024 : Int)) ∧
      (bm_rg (x4 + 1)) ∧
      bW sc 244 43 [br 13 0, v1, v2, v3, bi (x4 + 1), v5, v6, v7] [] (up ι 93 0 x4 0) Q)) :
  bW sc 244 43 [br 13 0, v1, v2, v3, bi x4, v5, v6, v7] [] ι Q := bm_snd 244 [43, 67, 149, 213] 11 h
set_option maxRecDepth 100000 in
theorem e_M_writeCode_67 {sc : bm_Sc} {Q : bm_O → bm_S → Prop} {v1 : bm_V} {v2 : bm_V} {v3 : bm_V} {x4 : Int} {v5 : bm_V} {v6 : bm_V} {v7 : bm_V} {ι : bm_S}
  (h : (if ι 13 0 50 ≤ x4 then
      bC sc 238 [br 13 0, bi 17910, bi 18, bi 5] ι (bk1 (fun r1 ι1 => 
        (if r1 = (1 : Int) then
          (0 ≤ (17910 : Int) ∧ (17910 : Int) < (18000 : Int)) ∧
          (bm_rg (17910 + ι1 73 0 17910)) ∧
          (0 ≤ 17910 + ι1 73 0 17910 ∧ 17910 + ι1 73 0 17910 < (18000 : Int)) ∧
          bC sc 171 [br 13 0, bi 17910, bi 18] (up ι1 71 0 (17910 + ι1 73 0 17910) 1) (bk0 (fun ι3 => 
            bW sc 244 149 [br 13 0, v1, v2, v3, bi r1, bi 0, bi 0, v7] [] ι3 Q) (bq Q))
        else
          bC sc 171 [br 13 0, bi 17910, bi 18] ι1 (bk0 (fun ι2 => 
            bW sc 244 149 [br 13 0, v1, v2, v3, bi r1, bi 0, bi 0, v7] [] ι2 Q) (bq Q)))) (bq Q))
    else
      (0 ≤ x4 ∧ x4 < (1024 : Int)) ∧
      (0 ≤ ι 94 0 x4 ∧ ι 94 0 x4 < (1024 : Int)) ∧
      (bm_rg (ι 93 0 (ι 94 0 x4) + 1)) ∧
      (0 ≤ ι 94 0 x4 ∧ ι 94 0 x4 < (1024 : Int)) ∧
      (bm_rg (x4 + 1)) ∧
      bW sc 244 67 [br 13 0, v1, v2, v3, bi (x4 + 1), v5, v6, v7] [] (up ι 93 0 (ι 94 0 x4) (ι 93 0 (ι 94 0 x4) + 1)) Q)) :
  bW sc 244 67 [br 13 0, v1, v2, v3, bi x4, v5, v6, v7] [] ι Q := bm_snd 244 [43, 67, 149, 213] 32 h
set_option maxRecDepth 100000 in
theorem e_M_writeCode_149 {sc : bm_Sc} {Q : bm_O → bm_S → Prop} {v1 : bm_V} {v2 : bm_V} {v3 : bm_V} {v4 : bm_V} {x5 : Int} {x6 : Int} {v7 : bm_V} {ι : bm_S}
  (h : (if (18 : Int) ≤ x6 then
      bW sc 244 213 [br 13 0, v1, v2, v3, v4, bi x5, bi 0, v7] [] ι Q
    else
      (if (32 : Int) ≤ x5 then
        bW sc 244 213 [br 13 0, v1, v2, v3, v4, bi x5, bi 0, v7] [] ι Q
      else
        bC sc 181 [bi x6] ι (bk1 (fun r1 ι1 => 
          (bm_rg (17910 + r1)) ∧
          (0 ≤ 17910 + r1 ∧ 17910 + r1 < (18000 : Int)) ∧
          bC sc 243 [br 13 0, bi (ι1 71 0 (17910 + r1))] ι1 (bk0 (fun ι2 => 
            (if ι1 71 0 (17910 + r1) ≤ (0 : Int) then
              (bm_rg (x5 + 0)) ∧
              (bm_rg (x6 + 1)) ∧
              bW sc 244 149 [br 13 0, v1, v2, v3, v4, bi (x5 + 0), bi (x6 + 1), bi (ι1 71 0 (17910 + r1))] [] ι2 Q
            else
              (0 ≤ ι1 71 0 (17910 + r1) ∧ ι1 71 0 (17910 + r1) < 32) ∧
              (bm_rg (x5 + 32 / bm_p2 (ι1 71 0 (17910 + r1)))) ∧
              (bm_rg (x6 + 1)) ∧
              bW sc 244 149 [br 13 0, v1, v2, v3, v4, bi (x5 + 32 / bm_p2 (ι1 71 0 (17910 + r1))), bi (x6 + 1), bi (ι1 71 0 (17910 + r1))] [] ι2 Q)) (bq Q))) (bq Q))))) :
  bW sc 244 149 [br 13 0, v1, v2, v3, v4, bi x5, bi x6, v7] [] ι Q := bm_snd 244 [43, 67, 149, 213] 29 h
set_option maxRecDepth 100000 in
theorem e_M_writeCode_213 {sc : bm_Sc} {Q : bm_O → bm_S → Prop} {v1 : bm_V} {v2 : bm_V} {v3 : bm_V} {v4 : bm_V} {v5 : bm_V} {x6 : Int} {v7 : bm_V} {ι : bm_S}
  (h : (if ι 13 0 50 ≤ x6 then
      Q (.inl none) ι
    else
      (0 ≤ x6 ∧ x6 < (1024 : Int)) ∧
      bC sc 236 [br 13 0, bi 17910, bi (ι 94 0 x6)] ι (bk0 (fun ι1 => 
        (0 ≤ x6 ∧ x6 < (1024 : Int)) ∧
        (if ι1 94 0 x6 = (17 : Int) then
          (0 ≤ x6 ∧ x6 < (1024 : Int)) ∧
          (bm_rg (ι1 95 0 x6 - 3)) ∧
          bC sc 234 [br 13 0, bi (ι1 95 0 x6 - 3), bi 3] ι1 (bk0 (fun ι2 => 
            (bm_rg (x6 + 1)) ∧
            bW sc 244 213 [br 13 0, v1, v2, v3, v4, v5, bi (x6 + 1), v7] [] ι2 Q) (bq Q))
        else
          (bm_rg (x6 + 1)) ∧
          bW sc 244 213 [br 13 0, v1, v2, v3, v4, v5, bi (x6 + 1), v7] [] ι1 Q)) (bq Q)))) :
  bW sc 244 213 [br 13 0, v1, v2, v3, v4, v5, bi x6, v7] [] ι Q := bm_snd 244 [43, 67, 149, 213] 29 h
-- M_findCopy
set_option maxRecDepth 100000 in
theorem e_M_findCopy_0 {sc : bm_Sc} {Q : bm_O → bm_S → Prop} {x1 : Int} {ι : bm_S}
  (h : (0 ≤ x1 ∧ x1 < (2001 : Int)) ∧
    bW sc 245 9 [br 13 0, bi x1, bi 1, bu] [] (up ι 96 0 x1 0) Q) :
  bC sc 245 [br 13 0, bi x1] ι Q := bm_snd 245 [9, 28] 8 h
set_option maxRecDepth 100000 in
theorem e_M_findCopy_9 {sc : bm_Sc} {Q : bm_O → bm_S → Prop} {x1 : Int} {x2 : Int} {v3 : bm_V} {ι : bm_S}
  (h : (if x1 < x2 then
      Q (.inl none) ι
    else
      (0 ≤ x1 ∧ x1 < (2001 : Int)) ∧
      (if (200 : Int) ≤ ι 96 0 x1 then
        Q (.inl none) ι
      else
        bW sc 245 28 [br 13 0, bi x1, bi x2, bi 0] [] ι Q))) :
  bW sc 245 9 [br 13 0, bi x1, bi x2, v3] [] ι Q := bm_snd 245 [9, 28] 12 h
set_option maxRecDepth 100000 in
theorem e_M_findCopy_28 {sc : bm_Sc} {Q : bm_O → bm_S → Prop} {x1 : Int} {x2 : Int} {x3 : Int} {ι : bm_S}
  (h : (if (200 : Int) ≤ x3 then
      (if x3 < (4 : Int) then
        (bm_rg (x2 + 1)) ∧
        bW sc 245 9 [br 13 0, bi x1, bi (x2 + 1), bi x3] [] ι Q
      else
        (0 ≤ x1 ∧ x1 < (2001 : Int)) ∧
        (if x3 ≤ ι 96 0 x1 then
          (bm_rg (x2 + 1)) ∧
          bW sc 245 9 [br 13 0, bi x1, bi (x2 + 1), bi x3] [] ι Q
        else
          (0 ≤ x1 ∧ x1 < (2001 : Int)) ∧
          (0 ≤ x1 ∧ x1 < (2001 : Int)) ∧
          (bm_rg (x2 + 1)) ∧
          bW sc 245 9 [br 13 0, bi x1, bi (x2 + 1), bi x3] [] (up (up ι 96 0 x1 x3) 97 0 x1 x2) Q))
    else
      (bm_rg (x1 + x3)) ∧
      (if ι 13 0 59 ≤ x1 + x3 then
        (if x3 < (4 : Int) then
          (bm_rg (x2 + 1)) ∧
          bW sc 245 9 [br 13 0, bi x1, bi (x2 + 1), bi x3] [] ι Q
        else
          (0 ≤ x1 ∧ x1 < (2001 : Int)) ∧
          (if x3 ≤ ι 96 0 x1 then
            (bm_rg (x2 + 1)) ∧
            bW sc 245 9 [br 13 0, bi x1, bi (x2 + 1), bi x3] [] ι Q
          else
            (0 ≤ x1 ∧ x1 < (2001 : Int)) ∧
            (0 ≤ x1 ∧ x1 < (2001 : Int)) ∧
            (bm_rg (x2 + 1)) ∧
            bW sc 245 9 [br 13 0, bi x1, bi (x2 + 1), bi x3] [] (up (up ι 96 0 x1 x3) 97 0 x1 x2) Q))
      else
        (bm_rg (x1 + x3)) ∧
        (0 ≤ x1 + x3 ∧ x1 + x3 < (2440 : Int)) ∧
        (bm_rg (x1 + x3)) ∧
        (bm_rg (x1 + x3 - x2)) ∧
        (0 ≤ x1 + x3 - x2 ∧ x1 + x3 - x2 < (2440 : Int)) ∧
        (if ι 74 0 (x1 + x3) = ι 74 0 (x1 + x3 - x2) then
          (bm_rg (x3 + 1)) ∧
          bW sc 245 28 [br 13 0, bi x1, bi x2, bi (x3 + 1)] [] ι Q
        else
          (if x3 < (4 : Int) then
            (bm_rg (x2 + 1)) ∧
            bW sc 245 9 [br 13 0, bi x1, bi (x2 + 1), bi x3] [] ι Q
          else
            (0 ≤ x1 ∧ x1 < (2001 : Int)) ∧
            (if x3 ≤ ι 96 0 x1 then
              (bm_rg (x2 + 1)) ∧
              bW sc 245 9 [br 13 0, bi x1, bi (x2 + 1), bi x3] [] ι Q
            else
              (0 ≤ x1 ∧ x1 < (2001 : Int)) ∧
              (0 ≤ x1 ∧ x1 < (2001 : Int)) ∧
              (bm_rg (x2 + 1)) ∧
              bW sc 245 9 [br 13 0, bi x1, bi (x2 + 1), bi x3] [] (up (up ι 96 0 x1 x3) 97 0 x1 x2) Q)))))) :
  bW sc 245 28 [br 13 0, bi x1, bi x2, bi x3] [] ι Q := bm_snd 245 [9, 28] 46 h
-- M_findWord
set_option maxRecDepth 100000 in
theorem e_M_findWord_0 {sc : bm_Sc} {Q : bm_O → bm_S → Prop} {x1 : Int} {ι : bm_S}
  (h : (0 ≤ x1 ∧ x1 < (2001 : Int)) ∧
    bW sc 246 9 [br 13 0, bi x1, bi 4, bu, bu, bu, bu] [] (up ι 98 0 x1 0) Q) :
  bC sc 246 [br 13 0, bi x1] ι Q := bm_snd 246 [9, 17, 30, 89] 8 h
set_option maxRecDepth 100000 in
theorem e_M_findWord_9 {sc : bm_Sc} {Q : bm_O → bm_S → Prop} {x1 : Int} {x2 : Int} {v3 : bm_V} {v4 : bm_V} {v5 : bm_V} {v6 : bm_V} {ι : bm_S}
  (h : (if (10 : Int) < x2 then
      Q (.inl none) ι
    else
      bW sc 246 17 [br 13 0, bi x1, bi x2, bi 0, v4, v5, v6] [] ι Q)) :
  bW sc 246 9 [br 13 0, bi x1, bi x2, v3, v4, v5, v6] [] ι Q := bm_snd 246 [9, 17, 30, 89] 6 h
set_option maxRecDepth 100000 in
theorem e_M_findWord_17 {sc : bm_Sc} {Q : bm_O → bm_S → Prop} {x1 : Int} {x2 : Int} {x3 : Int} {v4 : bm_V} {v5 : bm_V} {v6 : bm_V} {ι : bm_S}
  (h : (0 ≤ x2 ∧ x2 < (11 : Int)) ∧
    (if ι 69 0 x2 ≤ x3 then
      (bm_rg (x2 + 1)) ∧
      bW sc 246 9 [br 13 0, bi x1, bi (x2 + 1), bi x3, v4, v5, v6] [] ι Q
    else
      bW sc 246 30 [br 13 0, bi x1, bi x2, bi x3, bi 0, v5, v6] [] ι Q)) :
  bW sc 246 17 [br 13 0, bi x1, bi x2, bi x3, v4, v5, v6] [] ι Q := bm_snd 246 [9, 17, 30, 89] 9 h
set_option maxRecDepth 100000 in
theorem e_M_findWord_30 {sc : bm_Sc} {Q : bm_O → bm_S → Prop} {x1 : Int} {x2 : Int} {x3 : Int} {x4 : Int} {v5 : bm_V} {v6 : bm_V} {ι : bm_S}
  (h : (if (24 : Int) ≤ x4 then
      (bm_rg (x3 + 1)) ∧
      bW sc 246 17 [br 13 0, bi x1, bi x2, bi (x3 + 1), bi x4, v5, v6] [] ι Q
    else
      bC sc 168 [br 13 0, bi x2, bi x3, bi x4] ι (bk0 (fun ι1 => 
        (if ι1 13 0 10 < (4 : Int) then
          bW sc 246 89 [br 13 0, bi x1, bi x2, bi x3, bi x4, bi 0, bi 0] [] ι1 Q
        else
          (0 ≤ x1 ∧ x1 < (2001 : Int)) ∧
          (if ι1 13 0 10 ≤ ι1 98 0 x1 then
            bW sc 246 89 [br 13 0, bi x1, bi x2, bi x3, bi x4, bi 0, bi 0] [] ι1 Q
          else
            (bm_rg (x1 + ι1 13 0 10)) ∧
            (if ι1 13 0 59 < x1 + ι1 13 0 10 then
              bW sc 246 89 [br 13 0, bi x1, bi x2, bi x3, bi x4, bi 0, bi 0] [] ι1 Q
            else
              bW sc 246 89 [br 13 0, bi x1, bi x2, bi x3, bi x4, bi 1, bi 0] [] ι1 Q)))) (bq Q)))) :
  bW sc 246 30 [br 13 0, bi x1, bi x2, bi x3, bi x4, v5, v6] [] ι Q := bm_snd 246 [9, 17, 30, 89] 32 h
set_option maxRecDepth 100000 in
theorem e_M_findWord_89 {sc : bm_Sc} {Q : bm_O → bm_S → Prop} {x1 : Int} {x2 : Int} {x3 : Int} {x4 : Int} {x5 : Int} {x6 : Int} {ι : bm_S}
  (h : (if ι 13 0 10 ≤ x6 then
      (if x5 = (0 : Int) then
        (bm_rg (x4 + 1)) ∧
        bW sc 246 30 [br 13 0, bi x1, bi x2, bi x3, bi (x4 + 1), bi x5, bi x6] [] ι Q
      else
        (0 ≤ x1 ∧ x1 < (2001 : Int)) ∧
        (0 ≤ x1 ∧ x1 < (2001 : Int)) ∧
        (0 ≤ x1 ∧ x1 < (2001 : Int)) ∧
        (0 ≤ x1 ∧ x1 < (2001 : Int)) ∧
        (bm_rg (x4 + 1)) ∧
        bW sc 246 30 [br 13 0, bi x1, bi x2, bi x3, bi (x4 + 1), bi x5, bi x6] [] (up (up (up (up ι 98 0 x1 (ι 13 0 10)) 99 0 x1 x2) 100 0 x1 x3) 101 0 x1 x4) Q)
    else
      (if x5 = (0 : Int) then
        (if x5 = (0 : Int) then
          (bm_rg (x4 + 1)) ∧
          bW sc 246 30 [br 13 0, bi x1, bi x2, bi x3, bi (x4 + 1), bi x5, bi x6] [] ι Q
        else
          (0 ≤ x1 ∧ x1 < (2001 : Int)) ∧
          (0 ≤ x1 ∧ x1 < (2001 : Int)) ∧
          (0 ≤ x1 ∧ x1 < (2001 : Int)) ∧
          (0 ≤ x1 ∧ x1 < (2001 : Int)) ∧
          (bm_rg (x4 + 1)) ∧
          bW sc 246 30 [br 13 0, bi x1, bi x2, bi x3, bi (x4 + 1), bi x5, bi x6] [] (up (up (up (up ι 98 0 x1 (ι 13 0 10)) 99 0 x1 x2) 100 0 x1 x3) 101 0 x1 x4) Q)
      else
        (0 ≤ x6 ∧ x6 < (20 : Int)) ∧
        (bm_rg (x1 + x6)) ∧
        (0 ≤ x1 + x6 ∧ x1 + x6 < (2440 : Int)) ∧
        (if ι 70 0 x6 = ι 74 0 (x1 + x6) then
          (bm_rg (x6 + 1)) ∧
          bW sc 246 89 [br 13 0, bi x1, bi x2, bi x3, bi x4, bi 1, bi (x6 + 1)] [] ι Q
        else
          (bm_rg (x6 + 1)) ∧
          bW sc 246 89 [br 13 0, bi x1, bi x2, bi x3, bi x4, bi 0, bi (x6 + 1)] [] ι Q)))) :
  bW sc 246 89 [br 13 0, bi x1, bi x2, bi x3, bi x4, bi x5, bi x6] [] ι Q := bm_snd 246 [9, 17, 30, 89] 32 h
-- M_madeBy
set_option maxRecDepth 100000 in
theorem e_M_madeBy_0 {sc : bm_Sc} {Q : bm_O → bm_S → Prop} {x1 : Int} {ι : bm_S}
  (h : (0 ≤ x1 ∧ x1 < (2001 : Int)) ∧
    (if ι 102 0 x1 = (1 : Int) then
      (0 ≤ x1 ∧ x1 < (2001 : Int)) ∧
      Q (.inl (some (bi (ι 96 0 x1)))) ι
    else
      (0 ≤ x1 ∧ x1 < (2001 : Int)) ∧
      (if ι 102 0 x1 = (2 : Int) then
        (0 ≤ x1 ∧ x1 < (2001 : Int)) ∧
        Q (.inl (some (bi (ι 98 0 x1)))) ι
      else
        Q (.inl (some (bi 1))) ι))) :
  bC sc 247 [br 13 0, bi x1] ι Q := bm_snd 247 [] 18 h
-- M_findWays
set_option maxRecDepth 100000 in
theorem e_M_findWays_0 {sc : bm_Sc} {Q : bm_O → bm_S → Prop} {x1 : Int} {ι : bm_S}
  (h : (0 ≤ ι 13 0 59 ∧ ι 13 0 59 < (2001 : Int)) ∧
    (bm_rg (ι 13 0 59 - 1)) ∧
    bW sc 248 17 [br 13 0, bi x1, bi (ι 13 0 59 - 1), bu, bu, bu, bu, bu] [] (up ι 103 0 (ι 13 0 59) 0) Q) :
  bC sc 248 [br 13 0, bi x1] ι Q := bm_snd 248 [17, 219] 12 h
set_option maxRecDepth 100000 in
theorem e_M_findWays_17 {sc : bm_Sc} {Q : bm_O → bm_S → Prop} {x1 : Int} {x2 : Int} {v3 : bm_V} {v4 : bm_V} {v5 : bm_V} {v6 : bm_V} {v7 : bm_V} {ι : bm_S}
  (h : (if x2 < (0 : Int) then
      Q (.inl none) ι
    else
      bC sc 245 [br 13 0, bi x2] ι (bk0 (fun ι1 => 
        bC sc 246 [br 13 0, bi x2] ι1 (bk0 (fun ι2 => 
          (0 ≤ x2 ∧ x2 < (2001 : Int)) ∧
          (0 ≤ x2 ∧ x2 < (2001 : Int)) ∧
          (if x1 = (1 : Int) then
            (if ι2 96 0 x2 = (0 : Int) then
              (if ι2 98 0 x2 = (0 : Int) then
                (0 ≤ x2 ∧ x2 < (2001 : Int)) ∧
                bW sc 248 219 [br 13 0, bi x1, bi x2, bi (ι2 96 0 x2), bi (ι2 98 0 x2), v5, v6, v7] [] (up ι2 102 0 x2 0) Q
              else
                (if ι2 96 0 x2 < ι2 98 0 x2 then
                  (0 ≤ x2 ∧ x2 < (2001 : Int)) ∧
                  bW sc 248 219 [br 13 0, bi x1, bi x2, bi (ι2 96 0 x2), bi (ι2 98 0 x2), v5, v6, v7] [] (up ι2 102 0 x2 2) Q
                else
                  (0 ≤ x2 ∧ x2 < (2001 : Int)) ∧
                  bW sc 248 219 [br 13 0, bi x1, bi x2, bi (ι2 96 0 x2), bi (ι2 98 0 x2), v5, v6, v7] [] (up ι2 102 0 x2 1) Q))
            else
              (if ι2 96 0 x2 < ι2 98 0 x2 then
                (0 ≤ x2 ∧ x2 < (2001 : Int)) ∧
                bW sc 248 219 [br 13 0, bi x1, bi x2, bi (ι2 96 0 x2), bi (ι2 98 0 x2), v5, v6, v7] [] (up ι2 102 0 x2 2) Q
              else
                (0 ≤ x2 ∧ x2 < (2001 : Int)) ∧
                bW sc 248 219 [br 13 0, bi x1, bi x2, bi (ι2 96 0 x2), bi (ι2 98 0 x2), v5, v6, v7] [] (up ι2 102 0 x2 1) Q))
          else
            (if ι2 96 0 x2 ≤ (0 : Int) then
              (if ι2 98 0 x2 ≤ (0 : Int) then
                (bm_rg (x2 + 1)) ∧
                (0 ≤ x2 + 1 ∧ x2 + 1 < (2001 : Int)) ∧
                (bm_rg (9 + ι2 103 0 (x2 + 1))) ∧
                (if (1000000 : Int) < (1000000 : Int) then
                  (if 9 + ι2 103 0 (x2 + 1) < (1000000 : Int) then
                    (0 ≤ x2 ∧ x2 < (2001 : Int)) ∧
                    (0 ≤ x2 ∧ x2 < (2001 : Int)) ∧
                    (if (up ι2 102 0 x2 0) 102 0 x2 = (1 : Int) then
                      (0 ≤ x2 ∧ x2 < (2001 : Int)) ∧
                      bW sc 248 219 [br 13 0, bi x1, bi x2, bi (ι2 96 0 x2), bi (ι2 98 0 x2), bi 1000000, bi 1000000, bi (9 + ι2 103 0 (x2 + 1))] [] (up (up ι2 102 0 x2 0) 103 0 x2 1000000) Q
                    else
                      (0 ≤ x2 ∧ x2 < (2001 : Int)) ∧
                      (if (up ι2 102 0 x2 0) 102 0 x2 = (2 : Int) then
                        (0 ≤ x2 ∧ x2 < (2001 : Int)) ∧
                        bW sc 248 219 [br 13 0, bi x1, bi x2, bi (ι2 96 0 x2), bi (ι2 98 0 x2), bi 1000000, bi 1000000, bi (9 + ι2 103 0 (x2 + 1))] [] (up (up ι2 102 0 x2 0) 103 0 x2 1000000) Q
                      else
                        (0 ≤ x2 ∧ x2 < (2001 : Int)) ∧
                        bW sc 248 219 [br 13 0, bi x1, bi x2, bi (ι2 96 0 x2), bi (ι2 98 0 x2), bi 1000000, bi 1000000, bi (9 + ι2 103 0 (x2 + 1))] [] (up (up ι2 102 0 x2 0) 103 0 x2 (9 + ι2 103 0 (x2 + 1))) Q))
                  else
                    (0 ≤ x2 ∧ x2 < (2001 : Int)) ∧
                    (0 ≤ x2 ∧ x2 < (2001 : Int)) ∧
                    (if (up ι2 102 0 x2 2) 102 0 x2 = (1 : Int) then
                      (0 ≤ x2 ∧ x2 < (2001 : Int)) ∧
                      bW sc 248 219 [br 13 0, bi x1, bi x2, bi (ι2 96 0 x2), bi (ι2 98 0 x2), bi 1000000, bi 1000000, bi (9 + ι2 103 0 (x2 + 1))] [] (up (up ι2 102 0 x2 2) 103 0 x2 1000000) Q
                    else
                      (0 ≤ x2 ∧ x2 < (2001 : Int)) ∧
                      (if (up ι2 102 0 x2 2) 102 0 x2 = (2 : Int) then
                        (0 ≤ x2 ∧ x2 < (2001 : Int)) ∧
                        bW sc 248 219 [br 13 0, bi x1, bi x2, bi (ι2 96 0 x2), bi (ι2 98 0 x2), bi 1000000, bi 1000000, bi (9 + ι2 103 0 (x2 + 1))] [] (up (up ι2 102 0 x2 2) 103 0 x2 1000000) Q
                      else
                        (0 ≤ x2 ∧ x2 < (2001 : Int)) ∧
                        bW sc 248 219 [br 13 0, bi x1, bi x2, bi (ι2 96 0 x2), bi (ι2 98 0 x2), bi 1000000, bi 1000000, bi (9 + ι2 103 0 (x2 + 1))] [] (up (up ι2 102 0 x2 2) 103 0 x2 (9 + ι2 103 0 (x2 + 1))) Q)))
                else
                  (if 9 + ι2 103 0 (x2 + 1) < (1000000 : Int) then
                    (if 9 + ι2 103 0 (x2 + 1) < (1000000 : Int) then
                      (0 ≤ x2 ∧ x2 < (2001 : Int)) ∧
                      (0 ≤ x2 ∧ x2 < (2001 : Int)) ∧
                      (if (up ι2 102 0 x2 0) 102 0 x2 = (1 : Int) then
                        (0 ≤ x2 ∧ x2 < (2001 : Int)) ∧
                        bW sc 248 219 [br 13 0, bi x1, bi x2, bi (ι2 96 0 x2), bi (ι2 98 0 x2), bi 1000000, bi 1000000, bi (9 + ι2 103 0 (x2 + 1))] [] (up (up ι2 102 0 x2 0) 103 0 x2 1000000) Q
                      else
                        (0 ≤ x2 ∧ x2 < (2001 : Int)) ∧
                        (if (up ι2 102 0 x2 0) 102 0 x2 = (2 : Int) then
                          (0 ≤ x2 ∧ x2 < (2001 : Int)) ∧
                          bW sc 248 219 [br 13 0, bi x1, bi x2, bi (ι2 96 0 x2), bi (ι2 98 0 x2), bi 1000000, bi 1000000, bi (9 + ι2 103 0 (x2 + 1))] [] (up (up ι2 102 0 x2 0) 103 0 x2 1000000) Q
                        else
                          (0 ≤ x2 ∧ x2 < (2001 : Int)) ∧
                          bW sc 248 219 [br 13 0, bi x1, bi x2, bi (ι2 96 0 x2), bi (ι2 98 0 x2), bi 1000000, bi 1000000, bi (9 + ι2 103 0 (x2 + 1))] [] (up (up ι2 102 0 x2 0) 103 0 x2 (9 + ι2 103 0 (x2 + 1))) Q))
                    else
                      (0 ≤ x2 ∧ x2 < (2001 : Int)) ∧
                      (0 ≤ x2 ∧ x2 < (2001 : Int)) ∧
                      (if (up ι2 102 0 x2 2) 102 0 x2 = (1 : Int) then
                        (0 ≤ x2 ∧ x2 < (2001 : Int)) ∧
                        bW sc 248 219 [br 13 0, bi x1, bi x2, bi (ι2 96 0 x2), bi (ι2 98 0 x2), bi 1000000, bi 1000000, bi (9 + ι2 103 0 (x2 + 1))] [] (up (up ι2 102 0 x2 2) 103 0 x2 1000000) Q
                      else
                        (0 ≤ x2 ∧ x2 < (2001 : Int)) ∧
                        (if (up ι2 102 0 x2 2) 102 0 x2 = (2 : Int) then
                          (0 ≤ x2 ∧ x2 < (2001 : Int)) ∧
                          bW sc 248 219 [br 13 0, bi x1, bi x2, bi (ι2 96 0 x2), bi (ι2 98 0 x2), bi 1000000, bi 1000000, bi (9 + ι2 103 0 (x2 + 1))] [] (up (up ι2 102 0 x2 2) 103 0 x2 1000000) Q
                        else
                          (0 ≤ x2 ∧ x2 < (2001 : Int)) ∧
                          bW sc 248 219 [br 13 0, bi x1, bi x2, bi (ι2 96 0 x2), bi (ι2 98 0 x2), bi 1000000, bi 1000000, bi (9 + ι2 103 0 (x2 + 1))] [] (up (up ι2 102 0 x2 2) 103 0 x2 (9 + ι2 103 0 (x2 + 1))) Q)))
                  else
                    (0 ≤ x2 ∧ x2 < (2001 : Int)) ∧
                    (0 ≤ x2 ∧ x2 < (2001 : Int)) ∧
                    (if (up ι2 102 0 x2 1) 102 0 x2 = (1 : Int) then
                      (0 ≤ x2 ∧ x2 < (2001 : Int)) ∧
                      bW sc 248 219 [br 13 0, bi x1, bi x2, bi (ι2 96 0 x2), bi (ι2 98 0 x2), bi 1000000, bi 1000000, bi (9 + ι2 103 0 (x2 + 1))] [] (up (up ι2 102 0 x2 1) 103 0 x2 1000000) Q
                    else
                      (0 ≤ x2 ∧ x2 < (2001 : Int)) ∧
                      (if (up ι2 102 0 x2 1) 102 0 x2 = (2 : Int) then
                        (0 ≤ x2 ∧ x2 < (2001 : Int)) ∧
                        bW sc 248 219 [br 13 0, bi x1, bi x2, bi (ι2 96 0 x2), bi (ι2 98 0 x2), bi 1000000, bi 1000000, bi (9 + ι2 103 0 (x2 + 1))] [] (up (up ι2 102 0 x2 1) 103 0 x2 1000000) Q
                      else
                        (0 ≤ x2 ∧ x2 < (2001 : Int)) ∧
                        bW sc 248 219 [br 13 0, bi x1, bi x2, bi (ι2 96 0 x2), bi (ι2 98 0 x2), bi 1000000, bi 1000000, bi (9 + ι2 103 0 (x2 + 1))] [] (up (up ι2 102 0 x2 1) 103 0 x2 (9 + ι2 103 0 (x2 + 1))) Q))))
              else
                (bm_rg (x2 + ι2 98 0 x2)) ∧
                (0 ≤ x2 + ι2 98 0 x2 ∧ x2 + ι2 98 0 x2 < (2001 : Int)) ∧
                (bm_rg (24 + ι2 103 0 (x2 + ι2 98 0 x2))) ∧
                (bm_rg (x2 + 1)) ∧
                (0 ≤ x2 + 1 ∧ x2 + 1 < (2001 : Int)) ∧
                (bm_rg (9 + ι2 103 0 (x2 + 1))) ∧
                (if 24 + ι2 103 0 (x2 + ι2 98 0 x2) < (1000000 : Int) then
                  (if 9 + ι2 103 0 (x2 + 1) < 24 + ι2 103 0 (x2 + ι2 98 0 x2) then
                    (0 ≤ x2 ∧ x2 < (2001 : Int)) ∧
                    (0 ≤ x2 ∧ x2 < (2001 : Int)) ∧
                    (if (up ι2 102 0 x2 0) 102 0 x2 = (1 : Int) then
                      (0 ≤ x2 ∧ x2 < (2001 : Int)) ∧
                      bW sc 248 219 [br 13 0, bi x1, bi x2, bi (ι2 96 0 x2), bi (ι2 98 0 x2), bi 1000000, bi (24 + ι2 103 0 (x2 + ι2 98 0 x2)), bi (9 + ι2 103 0 (x2 + 1))] [] (up (up ι2 102 0 x2 0) 103 0 x2 1000000) Q
                    else
                      (0 ≤ x2 ∧ x2 < (2001 : Int)) ∧
                      (if (up ι2 102 0 x2 0) 102 0 x2 = (2 : Int) then
                        (0 ≤ x2 ∧ x2 < (2001 : Int)) ∧
                        bW sc 248 219 [br 13 0, bi x1, bi x2, bi (ι2 96 0 x2), bi (ι2 98 0 x2), bi 1000000, bi (24 + ι2 103 0 (x2 + ι2 98 0 x2)), bi (9 + ι2 103 0 (x2 + 1))] [] (up (up ι2 102 0 x2 0) 103 0 x2 (24 + ι2 103 0 (x2 + ι2 98 0 x2))) Q
                      else
                        (0 ≤ x2 ∧ x2 < (2001 : Int)) ∧
                        bW sc 248 219 [br 13 0, bi x1, bi x2, bi (ι2 96 0 x2), bi (ι2 98 0 x2), bi 1000000, bi (24 + ι2 103 0 (x2 + ι2 98 0 x2)), bi (9 + ι2 103 0 (x2 + 1))] [] (up (up ι2 102 0 x2 0) 103 0 x2 (9 + ι2 103 0 (x2 + 1))) Q))
                  else
                    (0 ≤ x2 ∧ x2 < (2001 : Int)) ∧
                    (0 ≤ x2 ∧ x2 < (2001 : Int)) ∧
                    (if (up ι2 102 0 x2 2) 102 0 x2 = (1 : Int) then
                      (0 ≤ x2 ∧ x2 < (2001 : Int)) ∧
                      bW sc 248 219 [br 13 0, bi x1, bi x2, bi (ι2 96 0 x2), bi (ι2 98 0 x2), bi 1000000, bi (24 + ι2 103 0 (x2 + ι2 98 0 x2)), bi (9 + ι2 103 0 (x2 + 1))] [] (up (up ι2 102 0 x2 2) 103 0 x2 1000000) Q
                    else
                      (0 ≤ x2 ∧ x2 < (2001 : Int)) ∧
                      (if (up ι2 102 0 x2 2) 102 0 x2 = (2 : Int) then
                        (0 ≤ x2 ∧ x2 < (2001 : Int)) ∧
                        bW sc 248 219 [br 13 0, bi x1, bi x2, bi (ι2 96 0 x2), bi (ι2 98 0 x2), bi 1000000, bi (24 + ι2 103 0 (x2 + ι2 98 0 x2)), bi (9 + ι2 103 0 (x2 + 1))] [] (up (up ι2 102 0 x2 2) 103 0 x2 (24 + ι2 103 0 (x2 + ι2 98 0 x2))) Q
                      else
                        (0 ≤ x2 ∧ x2 < (2001 : Int)) ∧
                        bW sc 248 219 [br 13 0, bi x1, bi x2, bi (ι2 96 0 x2), bi (ι2 98 0 x2), bi 1000000, bi (24 + ι2 103 0 (x2 + ι2 98 0 x2)), bi (9 + ι2 103 0 (x2 + 1))] [] (up (up ι2 102 0 x2 2) 103 0 x2 (9 + ι2 103 0 (x2 + 1))) Q)))
                else
                  (if 9 + ι2 103 0 (x2 + 1) < (1000000 : Int) then
                    (if 9 + ι2 103 0 (x2 + 1) < 24 + ι2 103 0 (x2 + ι2 98 0 x2) then
                      (0 ≤ x2 ∧ x2 < (2001 : Int)) ∧
                      (0 ≤ x2 ∧ x2 < (2001 : Int)) ∧
                      (if (up ι2 102 0 x2 0) 102 0 x2 = (1 : Int) then
                        (0 ≤ x2 ∧ x2 < (2001 : Int)) ∧
                        bW sc 248 219 [br 13 0, bi x1, bi x2, bi (ι2 96 0 x2), bi (ι2 98 0 x2), bi 1000000, bi (24 + ι2 103 0 (x2 + ι2 98 0 x2)), bi (9 + ι2 103 0 (x2 + 1))] [] (up (up ι2 102 0 x2 0) 103 0 x2 1000000) Q
                      else
                        (0 ≤ x2 ∧ x2 < (2001 : Int)) ∧
                        (if (up ι2 102 0 x2 0) 102 0 x2 = (2 : Int) then
                          (0 ≤ x2 ∧ x2 < (2001 : Int)) ∧
                          bW sc 248 219 [br 13 0, bi x1, bi x2, bi (ι2 96 0 x2), bi (ι2 98 0 x2), bi 1000000, bi (24 + ι2 103 0 (x2 + ι2 98 0 x2)), bi (9 + ι2 103 0 (x2 + 1))] [] (up (up ι2 102 0 x2 0) 103 0 x2 (24 + ι2 103 0 (x2 + ι2 98 0 x2))) Q
                        else
                          (0 ≤ x2 ∧ x2 < (2001 : Int)) ∧
                          bW sc 248 219 [br 13 0, bi x1, bi x2, bi (ι2 96 0 x2), bi (ι2 98 0 x2), bi 1000000, bi (24 + ι2 103 0 (x2 + ι2 98 0 x2)), bi (9 + ι2 103 0 (x2 + 1))] [] (up (up ι2 102 0 x2 0) 103 0 x2 (9 + ι2 103 0 (x2 + 1))) Q))
                    else
                      (0 ≤ x2 ∧ x2 < (2001 : Int)) ∧
                      (0 ≤ x2 ∧ x2 < (2001 : Int)) ∧
                      (if (up ι2 102 0 x2 2) 102 0 x2 = (1 : Int) then
                        (0 ≤ x2 ∧ x2 < (2001 : Int)) ∧
                        bW sc 248 219 [br 13 0, bi x1, bi x2, bi (ι2 96 0 x2), bi (ι2 98 0 x2), bi 1000000, bi (24 + ι2 103 0 (x2 + ι2 98 0 x2)), bi (9 + ι2 103 0 (x2 + 1))] [] (up (up ι2 102 0 x2 2) 103 0 x2 1000000) Q
                      else
                        (0 ≤ x2 ∧ x2 < (2001 : Int)) ∧
                        (if (up ι2 102 0 x2 2) 102 0 x2 = (2 : Int) then
                          (0 ≤ x2 ∧ x2 < (2001 : Int)) ∧
                          bW sc 248 219 [br 13 0, bi x1, bi x2, bi (ι2 96 0 x2), bi (ι2 98 0 x2), bi 1000000, bi (24 + ι2 103 0 (x2 + ι2 98 0 x2)), bi (9 + ι2 103 0 (x2 + 1))] [] (up (up ι2 102 0 x2 2) 103 0 x2 (24 + ι2 103 0 (x2 + ι2 98 0 x2))) Q
                        else
                          (0 ≤ x2 ∧ x2 < (2001 : Int)) ∧
                          bW sc 248 219 [br 13 0, bi x1, bi x2, bi (ι2 96 0 x2), bi (ι2 98 0 x2), bi 1000000, bi (24 + ι2 103 0 (x2 + ι2 98 0 x2)), bi (9 + ι2 103 0 (x2 + 1))] [] (up (up ι2 102 0 x2 2) 103 0 x2 (9 + ι2 103 0 (x2 + 1))) Q)))
                  else
                    (0 ≤ x2 ∧ x2 < (2001 : Int)) ∧
                    (0 ≤ x2 ∧ x2 < (2001 : Int)) ∧
                    (if (up ι2 102 0 x2 1) 102 0 x2 = (1 : Int) then
                      (0 ≤ x2 ∧ x2 < (2001 : Int)) ∧
                      bW sc 248 219 [br 13 0, bi x1, bi x2, bi (ι2 96 0 x2), bi (ι2 98 0 x2), bi 1000000, bi (24 + ι2 103 0 (x2 + ι2 98 0 x2)), bi (9 + ι2 103 0 (x2 + 1))] [] (up (up ι2 102 0 x2 1) 103 0 x2 1000000) Q
                    else
                      (0 ≤ x2 ∧ x2 < (2001 : Int)) ∧
                      (if (up ι2 102 0 x2 1) 102 0 x2 = (2 : Int) then
                        (0 ≤ x2 ∧ x2 < (2001 : Int)) ∧
                        bW sc 248 219 [br 13 0, bi x1, bi x2, bi (ι2 96 0 x2), bi (ι2 98 0 x2), bi 1000000, bi (24 + ι2 103 0 (x2 + ι2 98 0 x2)), bi (9 + ι2 103 0 (x2 + 1))] [] (up (up ι2 102 0 x2 1) 103 0 x2 (24 + ι2 103 0 (x2 + ι2 98 0 x2))) Q
                      else
                        (0 ≤ x2 ∧ x2 < (2001 : Int)) ∧
                        bW sc 248 219 [br 13 0, bi x1, bi x2, bi (ι2 96 0 x2), bi (ι2 98 0 x2), bi 1000000, bi (24 + ι2 103 0 (x2 + ι2 98 0 x2)), bi (9 + ι2 103 0 (x2 + 1))] [] (up (up ι2 102 0 x2 1) 103 0 x2 (9 + ι2 103 0 (x2 + 1))) Q)))))
            else
              (bm_rg (x2 + ι2 96 0 x2)) ∧
              (0 ≤ x2 + ι2 96 0 x2 ∧ x2 + ι2 96 0 x2 < (2001 : Int)) ∧
              (bm_rg (24 + ι2 103 0 (x2 + ι2 96 0 x2))) ∧
              (if ι2 98 0 x2 ≤ (0 : Int) then
                (bm_rg (x2 + 1)) ∧
                (0 ≤ x2 + 1 ∧ x2 + 1 < (2001 : Int)) ∧
                (bm_rg (9 + ι2 103 0 (x2 + 1))) ∧
                (if (1000000 : Int) < 24 + ι2 103 0 (x2 + ι2 96 0 x2) then
                  (if 9 + ι2 103 0 (x2 + 1) < (1000000 : Int) then
                    (0 ≤ x2 ∧ x2 < (2001 : Int)) ∧
                    (0 ≤ x2 ∧ x2 < (2001 : Int)) ∧
                    (if (up ι2 102 0 x2 0) 102 0 x2 = (1 : Int) then
                      (0 ≤ x2 ∧ x2 < (2001 : Int)) ∧
                      bW sc 248 219 [br 13 0, bi x1, bi x2, bi (ι2 96 0 x2), bi (ι2 98 0 x2), bi (24 + ι2 103 0 (x2 + ι2 96 0 x2)), bi 1000000, bi (9 + ι2 103 0 (x2 + 1))] [] (up (up ι2 102 0 x2 0) 103 0 x2 (24 + ι2 103 0 (x2 + ι2 96 0 x2))) Q
                    else
                      (0 ≤ x2 ∧ x2 < (2001 : Int)) ∧
                      (if (up ι2 102 0 x2 0) 102 0 x2 = (2 : Int) then
                        (0 ≤ x2 ∧ x2 < (2001 : Int)) ∧
                        bW sc 248 219 [br 13 0, bi x1, bi x2, bi (ι2 96 0 x2), bi (ι2 98 0 x2), bi (24 + ι2 103 0 (x2 + ι2 96 0 x2)), bi 1000000, bi (9 + ι2 103 0 (x2 + 1))] [] (up (up ι2 102 0 x2 0) 103 0 x2 1000000) Q
                      else
                        (0 ≤ x2 ∧ x2 < (2001 : Int)) ∧
                        bW sc 248 219 [br 13 0, bi x1, bi x2, bi (ι2 96 0 x2), bi (ι2 98 0 x2), bi (24 + ι2 103 0 (x2 + ι2 96 0 x2)), bi 1000000, bi (9 + ι2 103 0 (x2 + 1))] [] (up (up ι2 102 0 x2 0) 103 0 x2 (9 + ι2 103 0 (x2 + 1))) Q))
                  else
                    (0 ≤ x2 ∧ x2 < (2001 : Int)) ∧
                    (0 ≤ x2 ∧ x2 < (2001 : Int)) ∧
                    (if (up ι2 102 0 x2 2) 102 0 x2 = (1 : Int) then
                      (0 ≤ x2 ∧ x2 < (2001 : Int)) ∧
                      bW sc 248 219 [br 13 0, bi x1, bi x2, bi (ι2 96 0 x2), bi (ι2 98 0 x2), bi (24 + ι2 103 0 (x2 + ι2 96 0 x2)), bi 1000000, bi (9 + ι2 103 0 (x2 + 1))] [] (up (up ι2 102 0 x2 2) 103 0 x2 (24 + ι2 103 0 (x2 + ι2 96 0 x2))) Q
                    else
                      (0 ≤ x2 ∧ x2 < (2001 : Int)) ∧
                      (if (up ι2 102 0 x2 2) 102 0 x2 = (2 : Int) then
                        (0 ≤ x2 ∧ x2 < (2001 : Int)) ∧
                        bW sc 248 219 [br 13 0, bi x1, bi x2, bi (ι2 96 0 x2), bi (ι2 98 0 x2), bi (24 + ι2 103 0 (x2 + ι2 96 0 x2)), bi 1000000, bi (9 + ι2 103 0 (x2 + 1))] [] (up (up ι2 102 0 x2 2) 103 0 x2 1000000) Q
                      else
                        (0 ≤ x2 ∧ x2 < (2001 : Int)) ∧
                        bW sc 248 219 [br 13 0, bi x1, bi x2, bi (ι2 96 0 x2), bi (ι2 98 0 x2), bi (24 + ι2 103 0 (x2 + ι2 96 0 x2)), bi 1000000, bi (9 + ι2 103 0 (x2 + 1))] [] (up (up ι2 102 0 x2 2) 103 0 x2 (9 + ι2 103 0 (x2 + 1))) Q)))
                else
                  (if 9 + ι2 103 0 (x2 + 1) < 24 + ι2 103 0 (x2 + ι2 96 0 x2) then
                    (if 9 + ι2 103 0 (x2 + 1) < (1000000 : Int) then
                      (0 ≤ x2 ∧ x2 < (2001 : Int)) ∧
                      (0 ≤ x2 ∧ x2 < (2001 : Int)) ∧
                      (if (up ι2 102 0 x2 0) 102 0 x2 = (1 : Int) then
                        (0 ≤ x2 ∧ x2 < (2001 : Int)) ∧
                        bW sc 248 219 [br 13 0, bi x1, bi x2, bi (ι2 96 0 x2), bi (ι2 98 0 x2), bi (24 + ι2 103 0 (x2 + ι2 96 0 x2)), bi 1000000, bi (9 + ι2 103 0 (x2 + 1))] [] (up (up ι2 102 0 x2 0) 103 0 x2 (24 + ι2 103 0 (x2 + ι2 96 0 x2))) Q
                      else
                        (0 ≤ x2 ∧ x2 < (2001 : Int)) ∧
                        (if (up ι2 102 0 x2 0) 102 0 x2 = (2 : Int) then
                          (0 ≤ x2 ∧ x2 < (2001 : Int)) ∧
                          bW sc 248 219 [br 13 0, bi x1, bi x2, bi (ι2 96 0 x2), bi (ι2 98 0 x2), bi (24 + ι2 103 0 (x2 + ι2 96 0 x2)), bi 1000000, bi (9 + ι2 103 0 (x2 + 1))] [] (up (up ι2 102 0 x2 0) 103 0 x2 1000000) Q
                        else
                          (0 ≤ x2 ∧ x2 < (2001 : Int)) ∧
                          bW sc 248 219 [br 13 0, bi x1, bi x2, bi (ι2 96 0 x2), bi (ι2 98 0 x2), bi (24 + ι2 103 0 (x2 + ι2 96 0 x2)), bi 1000000, bi (9 + ι2 103 0 (x2 + 1))] [] (up (up ι2 102 0 x2 0) 103 0 x2 (9 + ι2 103 0 (x2 + 1))) Q))
                    else
                      (0 ≤ x2 ∧ x2 < (2001 : Int)) ∧
                      (0 ≤ x2 ∧ x2 < (2001 : Int)) ∧
                      (if (up ι2 102 0 x2 2) 102 0 x2 = (1 : Int) then
                        (0 ≤ x2 ∧ x2 < (2001 : Int)) ∧
                        bW sc 248 219 [br 13 0, bi x1, bi x2, bi (ι2 96 0 x2), bi (ι2 98 0 x2), bi (24 + ι2 103 0 (x2 + ι2 96 0 x2)), bi 1000000, bi (9 + ι2 103 0 (x2 + 1))] [] (up (up ι2 102 0 x2 2) 103 0 x2 (24 + ι2 103 0 (x2 + ι2 96 0 x2))) Q
                      else
                        (0 ≤ x2 ∧ x2 < (2001 : Int)) ∧
                        (if (up ι2 102 0 x2 2) 102 0 x2 = (2 : Int) then
                          (0 ≤ x2 ∧ x2 < (2001 : Int)) ∧
                          bW sc 248 219 [br 13 0, bi x1, bi x2, bi (ι2 96 0 x2), bi (ι2 98 0 x2), bi (24 + ι2 103 0 (x2 + ι2 96 0 x2)), bi 1000000, bi (9 + ι2 103 0 (x2 + 1))] [] (up (up ι2 102 0 x2 2) 103 0 x2 1000000) Q
                        else
                          (0 ≤ x2 ∧ x2 < (2001 : Int)) ∧
                          bW sc 248 219 [br 13 0, bi x1, bi x2, bi (ι2 96 0 x2), bi (ι2 98 0 x2), bi (24 + ι2 103 0 (x2 + ι2 96 0 x2)), bi 1000000, bi (9 + ι2 103 0 (x2 + 1))] [] (up (up ι2 102 0 x2 2) 103 0 x2 (9 + ι2 103 0 (x2 + 1))) Q)))
                  else
                    (0 ≤ x2 ∧ x2 < (2001 : Int)) ∧
                    (0 ≤ x2 ∧ x2 < (2001 : Int)) ∧
                    (if (up ι2 102 0 x2 1) 102 0 x2 = (1 : Int) then
                      (0 ≤ x2 ∧ x2 < (2001 : Int)) ∧
                      bW sc 248 219 [br 13 0, bi x1, bi x2, bi (ι2 96 0 x2), bi (ι2 98 0 x2), bi (24 + ι2 103 0 (x2 + ι2 96 0 x2)), bi 1000000, bi (9 + ι2 103 0 (x2 + 1))] [] (up (up ι2 102 0 x2 1) 103 0 x2 (24 + ι2 103 0 (x2 + ι2 96 0 x2))) Q
                    else
                      (0 ≤ x2 ∧ x2 < (2001 : Int)) ∧
                      (if (up ι2 102 0 x2 1) 102 0 x2 = (2 : Int) then
                        (0 ≤ x2 ∧ x2 < (2001 : Int)) ∧
                        bW sc 248 219 [br 13 0, bi x1, bi x2, bi (ι2 96 0 x2), bi (ι2 98 0 x2), bi (24 + ι2 103 0 (x2 + ι2 96 0 x2)), bi 1000000, bi (9 + ι2 103 0 (x2 + 1))] [] (up (up ι2 102 0 x2 1) 103 0 x2 1000000) Q
                      else
                        (0 ≤ x2 ∧ x2 < (2001 : Int)) ∧
                        bW sc 248 219 [br 13 0, bi x1, bi x2, bi (ι2 96 0 x2), bi (ι2 98 0 x2), bi (24 + ι2 103 0 (x2 + ι2 96 0 x2)), bi 1000000, bi (9 + ι2 103 0 (x2 + 1))] [] (up (up ι2 102 0 x2 1) 103 0 x2 (9 + ι2 103 0 (x2 + 1))) Q))))
              else
                (bm_rg (x2 + ι2 98 0 x2)) ∧
                (0 ≤ x2 + ι2 98 0 x2 ∧ x2 + ι2 98 0 x2 < (2001 : Int)) ∧
                (bm_rg (24 + ι2 103 0 (x2 + ι2 98 0 x2))) ∧
                (bm_rg (x2 + 1)) ∧
                (0 ≤ x2 + 1 ∧ x2 + 1 < (2001 : Int)) ∧
                (bm_rg (9 + ι2 103 0 (x2 + 1))) ∧
                (if 24 + ι2 103 0 (x2 + ι2 98 0 x2) < 24 + ι2 103 0 (x2 + ι2 96 0 x2) then
                  (if 9 + ι2 103 0 (x2 + 1) < 24 + ι2 103 0 (x2 + ι2 98 0 x2) then
                    (0 ≤ x2 ∧ x2 < (2001 : Int)) ∧
                    (0 ≤ x2 ∧ x2 < (2001 : Int)) ∧
                    (if (up ι2 102 0 x2 0) 102 0 x2 = (1 : Int) then
                      (0 ≤ x2 ∧ x2 < (2001 : Int)) ∧
                      bW sc 248 219 [br 13 0, bi x1, bi x2, bi (ι2 96 0 x2), bi (ι2 98 0 x2), bi (24 + ι2 103 0 (x2 + ι2 96 0 x2)), bi (24 + ι2 103 0 (x2 + ι2 98 0 x2)), bi (9 + ι2 103 0 (x2 + 1))] [] (up (up ι2 102 0 x2 0) 103 0 x2 (24 + ι2 103 0 (x2 + ι2 96 0 x2))) Q
                    else
                      (0 ≤ x2 ∧ x2 < (2001 : Int)) ∧
                      (if (up ι2 102 0 x2 0) 102 0 x2 = (2 : Int) then
                        (0 ≤ x2 ∧ x2 < (2001 : Int)) ∧
                        bW sc 248 219 [br 13 0, bi x1, bi x2, bi (ι2 96 0 x2), bi (ι2 98 0 x2), bi (24 + ι2 103 0 (x2 + ι2 96 0 x2)), bi (24 + ι2 103 0 (x2 + ι2 98 0 x2)), bi (9 + ι2 103 0 (x2 + 1))] [] (up (up ι2 102 0 x2 0) 103 0 x2 (24 + ι2 103 0 (x2 + ι2 98 0 x2))) Q
                      else
                        (0 ≤ x2 ∧ x2 < (2001 : Int)) ∧
                        bW sc 248 219 [br 13 0, bi x1, bi x2, bi (ι2 96 0 x2), bi (ι2 98 0 x2), bi (24 + ι2 103 0 (x2 + ι2 96 0 x2)), bi (24 + ι2 103 0 (x2 + ι2 98 0 x2)), bi (9 + ι2 103 0 (x2 + 1))] [] (up (up ι2 102 0 x2 0) 103 0 x2 (9 + ι2 103 0 (x2 + 1))) Q))
                  else
                    (0 ≤ x2 ∧ x2 < (2001 : Int)) ∧
                    (0 ≤ x2 ∧ x2 < (2001 : Int)) ∧
                    (if (up ι2 102 0 x2 2) 102 0 x2 = (1 : Int) then
                      (0 ≤ x2 ∧ x2 < (2001 : Int)) ∧
                      bW sc 248 219 [br 13 0, bi x1, bi x2, bi (ι2 96 0 x2), bi (ι2 98 0 x2), bi (24 + ι2 103 0 (x2 + ι2 96 0 x2)), bi (24 + ι2 103 0 (x2 + ι2 98 0 x2)), bi (9 + ι2 103 0 (x2 + 1))] [] (up (up ι2 102 0 x2 2) 103 0 x2 (24 + ι2 103 0 (x2 + ι2 96 0 x2))) Q
                    else
                      (0 ≤ x2 ∧ x2 < (2001 : Int)) ∧
                      (if (up ι2 102 0 x2 2) 102 0 x2 = (2 : Int) then
                        (0 ≤ x2 ∧ x2 < (2001 : Int)) ∧
                        bW sc 248 219 [br 13 0, bi x1, bi x2, bi (ι2 96 0 x2), bi (ι2 98 0 x2), bi (24 + ι2 103 0 (x2 + ι2 96 0 x2)), bi (24 + ι2 103 0 (x2 + ι2 98 0 x2)), bi (9 + ι2 103 0 (x2 + 1))] [] (up (up ι2 102 0 x2 2) 103 0 x2 (24 + ι2 103 0 (x2 + ι2 98 0 x2))) Q
                      else
                        (0 ≤ x2 ∧ x2 < (2001 : Int)) ∧
                        bW sc 248 219 [br 13 0, bi x1, bi x2, bi (ι2 96 0 x2), bi (ι2 98 0 x2), bi (24 + ι2 103 0 (x2 + ι2 96 0 x2)), bi (24 + ι2 103 0 (x2 + ι2 98 0 x2)), bi (9 + ι2 103 0 (x2 + 1))] [] (up (up ι2 102 0 x2 2) 103 0 x2 (9 + ι2 103 0 (x2 + 1))) Q)))
                else
                  (if 9 + ι2 103 0 (x2 + 1) < 24 + ι2 103 0 (x2 + ι2 96 0 x2) then
                    (if 9 + ι2 103 0 (x2 + 1) < 24 + ι2 103 0 (x2 + ι2 98 0 x2) then
                      (0 ≤ x2 ∧ x2 < (2001 : Int)) ∧
                      (0 ≤ x2 ∧ x2 < (2001 : Int)) ∧
                      (if (up ι2 102 0 x2 0) 102 0 x2 = (1 : Int) then
                        (0 ≤ x2 ∧ x2 < (2001 : Int)) ∧
                        bW sc 248 219 [br 13 0, bi x1, bi x2, bi (ι2 96 0 x2), bi (ι2 98 0 x2), bi (24 + ι2 103 0 (x2 + ι2 96 0 x2)), bi (24 + ι2 103 0 (x2 + ι2 98 0 x2)), bi (9 + ι2 103 0 (x2 + 1))] [] (up (up ι2 102 0 x2 0) 103 0 x2 (24 + ι2 103 0 (x2 + ι2 96 0 x2))) Q
                      else
                        (0 ≤ x2 ∧ x2 < (2001 : Int)) ∧
                        (if (up ι2 102 0 x2 0) 102 0 x2 = (2 : Int) then
                          (0 ≤ x2 ∧ x2 < (2001 : Int)) ∧
                          bW sc 248 219 [br 13 0, bi x1, bi x2, bi (ι2 96 0 x2), bi (ι2 98 0 x2), bi (24 + ι2 103 0 (x2 + ι2 96 0 x2)), bi (24 + ι2 103 0 (x2 + ι2 98 0 x2)), bi (9 + ι2 103 0 (x2 + 1))] [] (up (up ι2 102 0 x2 0) 103 0 x2 (24 + ι2 103 0 (x2 + ι2 98 0 x2))) Q
                        else
                          (0 ≤ x2 ∧ x2 < (2001 : Int)) ∧
                          bW sc 248 219 [br 13 0, bi x1, bi x2, bi (ι2 96 0 x2), bi (ι2 98 0 x2), bi (24 + ι2 103 0 (x2 + ι2 96 0 x2)), bi (24 + ι2 103 0 (x2 + ι2 98 0 x2)), bi (9 + ι2 103 0 (x2 + 1))] [] (up (up ι2 102 0 x2 0) 103 0 x2 (9 + ι2 103 0 (x2 + 1))) Q))
                    else
                      (0 ≤ x2 ∧ x2 < (2001 : Int)) ∧
                      (0 ≤ x2 ∧ x2 < (2001 : Int)) ∧
                      (if (up ι2 102 0 x2 2) 102 0 x2 = (1 : Int) then
                        (0 ≤ x2 ∧ x2 < (2001 : Int)) ∧
                        bW sc 248 219 [br 13 0, bi x1, bi x2, bi (ι2 96 0 x2), bi (ι2 98 0 x2), bi (24 + ι2 103 0 (x2 + ι2 96 0 x2)), bi (24 + ι2 103 0 (x2 + ι2 98 0 x2)), bi (9 + ι2 103 0 (x2 + 1))] [] (up (up ι2 102 0 x2 2) 103 0 x2 (24 + ι2 103 0 (x2 + ι2 96 0 x2))) Q
                      else
                        (0 ≤ x2 ∧ x2 < (2001 : Int)) ∧
                        (if (up ι2 102 0 x2 2) 102 0 x2 = (2 : Int) then
                          (0 ≤ x2 ∧ x2 < (2001 : Int)) ∧
                          bW sc 248 219 [br 13 0, bi x1, bi x2, bi (ι2 96 0 x2), bi (ι2 98 0 x2), bi (24 + ι2 103 0 (x2 + ι2 96 0 x2)), bi (24 + ι2 103 0 (x2 + ι2 98 0 x2)), bi (9 + ι2 103 0 (x2 + 1))] [] (up (up ι2 102 0 x2 2) 103 0 x2 (24 + ι2 103 0 (x2 + ι2 98 0 x2))) Q
                        else
                          (0 ≤ x2 ∧ x2 < (2001 : Int)) ∧
                          bW sc 248 219 [br 13 0, bi x1, bi x2, bi (ι2 96 0 x2), bi (ι2 98 0 x2), bi (24 + ι2 103 0 (x2 + ι2 96 0 x2)), bi (24 + ι2 103 0 (x2 + ι2 98 0 x2)), bi (9 + ι2 103 0 (x2 + 1))] [] (up (up ι2 102 0 x2 2) 103 0 x2 (9 + ι2 103 0 (x2 + 1))) Q)))
                  else
                    (0 ≤ x2 ∧ x2 < (2001 : Int)) ∧
                    (0 ≤ x2 ∧ x2 < (2001 : Int)) ∧
                    (if (up ι2 102 0 x2 1) 102 0 x2 = (1 : Int) then
                      (0 ≤ x2 ∧ x2 < (2001 : Int)) ∧
                      bW sc 248 219 [br 13 0, bi x1, bi x2, bi (ι2 96 0 x2), bi (ι2 98 0 x2), bi (24 + ι2 103 0 (x2 + ι2 96 0 x2)), bi (24 + ι2 103 0 (x2 + ι2 98 0 x2)), bi (9 + ι2 103 0 (x2 + 1))] [] (up (up ι2 102 0 x2 1) 103 0 x2 (24 + ι2 103 0 (x2 + ι2 96 0 x2))) Q
                    else
                      (0 ≤ x2 ∧ x2 < (2001 : Int)) ∧
                      (if (up ι2 102 0 x2 1) 102 0 x2 = (2 : Int) then
                        (0 ≤ x2 ∧ x2 < (2001 : Int)) ∧
                        bW sc 248 219 [br 13 0, bi x1, bi x2, bi (ι2 96 0 x2), bi (ι2 98 0 x2), bi (24 + ι2 103 0 (x2 + ι2 96 0 x2)), bi (24 + ι2 103 0 (x2 + ι2 98 0 x2)), bi (9 + ι2 103 0 (x2 + 1))] [] (up (up ι2 102 0 x2 1) 103 0 x2 (24 + ι2 103 0 (x2 + ι2 98 0 x2))) Q
                      else
                        (0 ≤ x2 ∧ x2 < (2001 : Int)) ∧
                        bW sc 248 219 [br 13 0, bi x1, bi x2, bi (ι2 96 0 x2), bi (ι2 98 0 x2), bi (24 + ι2 103 0 (x2 + ι2 96 0 x2)), bi (24 + ι2 103 0 (x2 + ι2 98 0 x2)), bi (9 + ι2 103 0 (x2 + 1))] [] (up (up ι2 102 0 x2 1) 103 0 x2 (9 + ι2 103 0 (x2 + 1))) Q)))))))) (bq Q))) (bq Q)))) :
  bW sc 248 17 [br 13 0, bi x1, bi x2, v3, v4, v5, v6, v7] [] ι Q := bm_snd 248 [17, 219] 88 h
set_option maxRecDepth 100000 in
theorem e_M_findWays_219 {sc : bm_Sc} {Q : bm_O → bm_S → Prop} {x1 : Int} {x2 : Int} {v3 : bm_V} {v4 : bm_V} {v5 : bm_V} {v6 : bm_V} {v7 : bm_V} {ι : bm_S}
  (h : (bm_rg (x2 + (-1))) ∧
    bW sc 248 17 [br 13 0, bi x1, bi (x2 + (-1)), v3, v4, v5, v6, v7] [] ι Q) :
  bW sc 248 219 [br 13 0, bi x1, bi x2, v3, v4, v5, v6, v7] [] ι Q := bm_snd 248 [17, 219] 3 h
-- M_codeOf
set_option maxRecDepth 100000 in
theorem e_M_codeOf_0 {sc : bm_Sc} {Q : bm_O → bm_S → Prop} {x0 : Int} {x1 : Int} {ι : bm_S}
  (h : bW sc 249 2 [bi x0, bi x1, bi 0] [] ι Q) :
  bC sc 249 [bi x0, bi x1] ι Q := bm_snd 249 [2] 3 h
set_option maxRecDepth 100000 in
theorem e_M_codeOf_2 {sc : bm_Sc} {Q : bm_O → bm_S → Prop} {x0 : Int} {x1 : Int} {x2 : Int} {ι : bm_S}
  (h : (if (23 : Int) ≤ x2 then
      Q (.inl (some (bi x2))) ι
    else
      (if x1 = (0 : Int) then
        (bm_rg (x2 + 1)) ∧
        bC sc 203 [bi (x2 + 1)] ι (bk1 (fun r1 ι1 => 
          (if x0 < r1 then
            Q (.inl (some (bi x2))) ι1
          else
            (bm_rg (x2 + 1)) ∧
            bW sc 249 2 [bi x0, bi x1, bi (x2 + 1)] [] ι1 Q)) (bq Q))
      else
        (bm_rg (x2 + 1)) ∧
        bC sc 202 [bi (x2 + 1)] ι (bk1 (fun r2 ι2 => 
          (if x0 < r2 then
            Q (.inl (some (bi x2))) ι2
          else
            (bm_rg (x2 + 1)) ∧
            bW sc 249 2 [bi x0, bi x1, bi (x2 + 1)] [] ι2 Q)) (bq Q))))) :
  bW sc 249 2 [bi x0, bi x1, bi x2] [] ι Q := bm_snd 249 [2] 15 h
-- M_cellOf
set_option maxRecDepth 100000 in
theorem e_M_cellOf_0 {sc : bm_Sc} {Q : bm_O → bm_S → Prop} {x0 : Int} {x1 : Int} {ι : bm_S}
  (h : bW sc 250 2 [bi x0, bi x1, bi 2] [] ι Q) :
  bC sc 250 [bi x0, bi x1] ι Q := bm_snd 250 [2] 3 h
set_option maxRecDepth 100000 in
theorem e_M_cellOf_2 {sc : bm_Sc} {Q : bm_O → bm_S → Prop} {x0 : Int} {x1 : Int} {x2 : Int} {ι : bm_S}
  (h : bC sc 204 [bi x2] ι (bk1 (fun r1 ι1 => 
      (if r1 = x0 then
        bC sc 205 [bi x2] ι1 (bk1 (fun r2 ι2 => 
          (if r2 = x1 then
            Q (.inl (some (bi x2))) ι2
          else
            (bm_rg (x2 + 1)) ∧
            bW sc 250 2 [bi x0, bi x1, bi (x2 + 1)] [] ι2 Q)) (bq Q))
      else
        (bm_rg (x2 + 1)) ∧
        bW sc 250 2 [bi x0, bi x1, bi (x2 + 1)] [] ι1 Q)) (bq Q))) :
  bW sc 250 2 [bi x0, bi x1, bi x2] [] ι Q := bm_snd 250 [2] 11 h
-- M_signOf
set_option maxRecDepth 100000 in
theorem e_M_signOf_0 {sc : bm_Sc} {Q : bm_O → bm_S → Prop} {x1 : Int} {ι : bm_S}
  (h : bW sc 251 2 [br 13 0, bi x1, bi 0] [] ι Q) :
  bC sc 251 [br 13 0, bi x1] ι Q := bm_snd 251 [2, 29] 3 h
set_option maxRecDepth 100000 in
theorem e_M_signOf_2 {sc : bm_Sc} {Q : bm_O → bm_S → Prop} {x1 : Int} {x2 : Int} {ι : bm_S}
  (h : (if (4 : Int) ≤ x2 then
      bW sc 251 29 [br 13 0, bi x1, bi 1] [] ι Q
    else
      (bm_rg (3 - x2)) ∧
      (0 ≤ 3 - x2 ∧ 3 - x2 < (4 : Int)) ∧
      (if ι 107 0 (3 - x2) = x1 then
        Q (.inl (some (bi x2))) ι
      else
        (bm_rg (x2 + 1)) ∧
        bW sc 251 2 [br 13 0, bi x1, bi (x2 + 1)] [] ι Q))) :
  bW sc 251 2 [br 13 0, bi x1, bi x2] [] ι Q := bm_snd 251 [2, 29] 14 h
set_option maxRecDepth 100000 in
theorem e_M_signOf_29 {sc : bm_Sc} {Q : bm_O → bm_S → Prop} {v0 : bm_V} {x1 : Int} {x2 : Int} {ι : bm_S}
  (h : ((0 ≤ x2 ∧ x2 < 32) ∧ bm_rg (4 * bm_p2 x2)) ∧
    (bm_rg (x1 + 3)) ∧
    (if x1 + 3 < 4 * bm_p2 x2 then
      (bm_rg (x2 - 1)) ∧
      (bm_rg (2 * (x2 - 1))) ∧
      (bm_rg (16 + 2 * (x2 - 1))) ∧
      (bm_rg (x1 + 3)) ∧
      (0 ≤ x2 ∧ x2 < 32) ∧
      (bm_rg (16 + 2 * (x2 - 1) + (x1 + 3) / bm_p2 x2 % 2)) ∧
      Q (.inl (some (bi (16 + 2 * (x2 - 1) + (x1 + 3) / bm_p2 x2 % 2)))) ι
    else
      (bm_rg (x2 + 1)) ∧
      bW sc 251 29 [v0, bi x1, bi (x2 + 1)] [] ι Q)) :
  bW sc 251 29 [v0, bi x1, bi x2] [] ι Q := bm_snd 251 [2, 29] 23 h
-- M_addCommand
set_option maxRecDepth 100000 in
theorem e_M_addCommand_0 {sc : bm_Sc} {Q : bm_O → bm_S → Prop} {x1 : Int} {x2 : Int} {x3 : Int} {x4 : Int} {x5 : Int} {ι : bm_S}
  (h : (if x4 = (0 : Int) then
      bC sc 251 [br 13 0, bi x3] ι (bk1 (fun r1 ι1 => 
        bC sc 249 [bi x1, bi 1] ι1 (bk1 (fun r2 ι2 => 
          bC sc 249 [bi x2, bi 0] ι2 (bk1 (fun r3 ι3 => 
            (if r1 = (0 : Int) then
              (if (8 : Int) ≤ r2 then
                bW sc 252 57 [br 13 0, bi x1, bi x2, bi x3, bi x4, bi x5, bi r1, bi r2, bi r3, bu, bu] [] ι3 Q
              else
                (if (16 : Int) ≤ r3 then
                  bW sc 252 57 [br 13 0, bi x1, bi x2, bi x3, bi x4, bi x5, bi r1, bi r2, bi r3, bu, bu] [] ι3 Q
                else
                  (0 ≤ r3 ∧ 0 < (8 : Int)) ∧
                  (bm_rg (4 * ι3 13 0 63)) ∧
                  (0 ≤ 4 * ι3 13 0 63 ∧ 4 * ι3 13 0 63 < (8100 : Int)) ∧
                  (bm_rg (4 * ι3 13 0 63)) ∧
                  (bm_rg (4 * ι3 13 0 63 + 1)) ∧
                  (if x4 = (0 : Int) then
                    (0 ≤ 4 * ι3 13 0 63 + 1 ∧ 4 * ι3 13 0 63 + 1 < (8100 : Int)) ∧
                    (bm_rg (4 * ι3 13 0 63)) ∧
                    (bm_rg (4 * ι3 13 0 63 + 2)) ∧
                    (if x4 = (0 : Int) then
                      (0 ≤ 4 * ι3 13 0 63 + 2 ∧ 4 * ι3 13 0 63 + 2 < (8100 : Int)) ∧
                      (bm_rg (4 * ι3 13 0 63)) ∧
                      (bm_rg (4 * ι3 13 0 63 + 3)) ∧
                      (bm_rg (64 * (r3 / 8))) ∧
                      (0 ≤ r2 ∧ 0 < (8 : Int)) ∧
                      (bm_rg (8 * (r2 % 8))) ∧
                      (bm_rg (64 * (r3 / 8) + 8 * (r2 % 8))) ∧
                      (0 ≤ r3 ∧ 0 < (8 : Int)) ∧
                      (bm_rg (64 * (r3 / 8) + 8 * (r2 % 8) + r3 % 8)) ∧
                      (0 ≤ 4 * ι3 13 0 63 + 3 ∧ 4 * ι3 13 0 63 + 3 < (8100 : Int)) ∧
                      (if (2 : Int) ≤ r3 / 8 then
                        (0 ≤ ι3 13 0 63 ∧ ι3 13 0 63 < (2100 : Int)) ∧
                        (0 ≤ ι3 13 0 63 ∧ ι3 13 0 63 < (2100 : Int)) ∧
                        (bm_rg (ι3 13 0 63 + 1)) ∧
                        (if x5 = (0 : Int) then
                          bW sc 252 252 [br 13 0, bi x1, bi x2, bi x3, bi x4, bi x5, bi r1, bi r2, bi r3, bi (r3 / 8), bu] [] (up (up (up (up (up (up (up ι3 104 0 (4 * ι3 13 0 63) x1) 104 0 (4 * ι3 13 0 63 + 1) x2) 104 0 (4 * ι3 13 0 63 + 2) x3) 104 0 (4 * ι3 13 0 63 + 3) (64 * (r3 / 8) + 8 * (r2 % 8) + r3 % 8)) 105 0 (ι3 13 0 63) r1) 106 0 (ι3 13 0 63) x2) 13 0 63 (ι3 13 0 63 + 1)) Q
                        else
                          (if r1 = (0 : Int) then
                            bW sc 252 252 [br 13 0, bi x1, bi x2, bi x3, bi x4, bi x5, bi r1, bi r2, bi r3, bi (r3 / 8), bu] [] (up (up (up (up (up (up (up ι3 104 0 (4 * ι3 13 0 63) x1) 104 0 (4 * ι3 13 0 63 + 1) x2) 104 0 (4 * ι3 13 0 63 + 2) x3) 104 0 (4 * ι3 13 0 63 + 3) (64 * (r3 / 8) + 8 * (r2 % 8) + r3 % 8)) 105 0 (ι3 13 0 63) r1) 106 0 (ι3 13 0 63) x2) 13 0 63 (ι3 13 0 63 + 1)) Q
                          else
                            bW sc 252 217 [br 13 0, bi x1, bi x2, bi x3, bi x4, bi x5, bi r1, bi r2, bi r3, bi (r3 / 8), bi 0] [] (up (up (up (up (up (up (up ι3 104 0 (4 * ι3 13 0 63) x1) 104 0 (4 * ι3 13 0 63 + 1) x2) 104 0 (4 * ι3 13 0 63 + 2) x3) 104 0 (4 * ι3 13 0 63 + 3) (64 * (r3 / 8) + 8 * (r2 % 8) + r3 % 8)) 105 0 (ι3 13 0 63) r1) 106 0 (ι3 13 0 63) x2) 13 0 63 (ι3 13 0 63 + 1)) Q))
                      else
                        (0 ≤ ι3 13 0 63 ∧ ι3 13 0 63 < (2100 : Int)) ∧
                        (0 ≤ ι3 13 0 63 ∧ ι3 13 0 63 < (2100 : Int)) ∧
                        (bm_rg (ι3 13 0 63 + 1)) ∧
                        (if x5 = (0 : Int) then
                          bW sc 252 252 [br 13 0, bi x1, bi x2, bi x3, bi x4, bi x5, bi r1, bi r2, bi r3, bi (r3 / 8), bu] [] (up (up (up (up (up (up (up ι3 104 0 (4 * ι3 13 0 63) x1) 104 0 (4 * ι3 13 0 63 + 1) x2) 104 0 (4 * ι3 13 0 63 + 2) x3) 104 0 (4 * ι3 13 0 63 + 3) (64 * (r3 / 8) + 8 * (r2 % 8) + r3 % 8)) 105 0 (ι3 13 0 63) (-1)) 106 0 (ι3 13 0 63) x2) 13 0 63 (ι3 13 0 63 + 1)) Q
                        else
                          (if r1 = (0 : Int) then
                            bW sc 252 252 [br 13 0, bi x1, bi x2, bi x3, bi x4, bi x5, bi r1, bi r2, bi r3, bi (r3 / 8), bu] [] (up (up (up (up (up (up (up ι3 104 0 (4 * ι3 13 0 63) x1) 104 0 (4 * ι3 13 0 63 + 1) x2) 104 0 (4 * ι3 13 0 63 + 2) x3) 104 0 (4 * ι3 13 0 63 + 3) (64 * (r3 / 8) + 8 * (r2 % 8) + r3 % 8)) 105 0 (ι3 13 0 63) (-1)) 106 0 (ι3 13 0 63) x2) 13 0 63 (ι3 13 0 63 + 1)) Q
                          else
                            bW sc 252 217 [br 13 0, bi x1, bi x2, bi x3, bi x4, bi x5, bi r1, bi r2, bi r3, bi (r3 / 8), bi 0] [] (up (up (up (up (up (up (up ι3 104 0 (4 * ι3 13 0 63) x1) 104 0 (4 * ι3 13 0 63 + 1) x2) 104 0 (4 * ι3 13 0 63 + 2) x3) 104 0 (4 * ι3 13 0 63 + 3) (64 * (r3 / 8) + 8 * (r2 % 8) + r3 % 8)) 105 0 (ι3 13 0 63) (-1)) 106 0 (ι3 13 0 63) x2) 13 0 63 (ι3 13 0 63 + 1)) Q)))
                    else
                      (0 ≤ 4 * ι3 13 0 63 + 2 ∧ 4 * ι3 13 0 63 + 2 < (8100 : Int)) ∧
                      (bm_rg (4 * ι3 13 0 63)) ∧
                      (bm_rg (4 * ι3 13 0 63 + 3)) ∧
                      (bm_rg (64 * (r3 / 8))) ∧
                      (0 ≤ r2 ∧ 0 < (8 : Int)) ∧
                      (bm_rg (8 * (r2 % 8))) ∧
                      (bm_rg (64 * (r3 / 8) + 8 * (r2 % 8))) ∧
                      (0 ≤ r3 ∧ 0 < (8 : Int)) ∧
                      (bm_rg (64 * (r3 / 8) + 8 * (r2 % 8) + r3 % 8)) ∧
                      (0 ≤ 4 * ι3 13 0 63 + 3 ∧ 4 * ι3 13 0 63 + 3 < (8100 : Int)) ∧
                      (if (2 : Int) ≤ r3 / 8 then
                        (0 ≤ ι3 13 0 63 ∧ ι3 13 0 63 < (2100 : Int)) ∧
                        (0 ≤ ι3 13 0 63 ∧ ι3 13 0 63 < (2100 : Int)) ∧
                        (bm_rg (ι3 13 0 63 + 1)) ∧
                        (if x5 = (0 : Int) then
                          bW sc 252 252 [br 13 0, bi x1, bi x2, bi x3, bi x4, bi x5, bi r1, bi r2, bi r3, bi (r3 / 8), bu] [] (up (up (up (up (up (up (up ι3 104 0 (4 * ι3 13 0 63) x1) 104 0 (4 * ι3 13 0 63 + 1) x2) 104 0 (4 * ι3 13 0 63 + 2) 0) 104 0 (4 * ι3 13 0 63 + 3) (64 * (r3 / 8) + 8 * (r2 % 8) + r3 % 8)) 105 0 (ι3 13 0 63) r1) 106 0 (ι3 13 0 63) x2) 13 0 63 (ι3 13 0 63 + 1)) Q
                        else
                          (if r1 = (0 : Int) then
                            bW sc 252 252 [br 13 0, bi x1, bi x2, bi x3, bi x4, bi x5, bi r1, bi r2, bi r3, bi (r3 / 8), bu] [] (up (up (up (up (up (up (up ι3 104 0 (4 * ι3 13 0 63) x1) 104 0 (4 * ι3 13 0 63 + 1) x2) 104 0 (4 * ι3 13 0 63 + 2) 0) 104 0 (4 * ι3 13 0 63 + 3) (64 * (r3 / 8) + 8 * (r2 % 8) + r3 % 8)) 105 0 (ι3 13 0 63) r1) 106 0 (ι3 13 0 63) x2) 13 0 63 (ι3 13 0 63 + 1)) Q
                          else
                            bW sc 252 217 [br 13 0, bi x1, bi x2, bi x3, bi x4, bi x5, bi r1, bi r2, bi r3, bi (r3 / 8), bi 0] [] (up (up (up (up (up (up (up ι3 104 0 (4 * ι3 13 0 63) x1) 104 0 (4 * ι3 13 0 63 + 1) x2) 104 0 (4 * ι3 13 0 63 + 2) 0) 104 0 (4 * ι3 13 0 63 + 3) (64 * (r3 / 8) + 8 * (r2 % 8) + r3 % 8)) 105 0 (ι3 13 0 63) r1) 106 0 (ι3 13 0 63) x2) 13 0 63 (ι3 13 0 63 + 1)) Q))
                      else
                        (0 ≤ ι3 13 0 63 ∧ ι3 13 0 63 < (2100 : Int)) ∧
                        (0 ≤ ι3 13 0 63 ∧ ι3 13 0 63 < (2100 : Int)) ∧
                        (bm_rg (ι3 13 0 63 + 1)) ∧
                        (if x5 = (0 : Int) then
                          bW sc 252 252 [br 13 0, bi x1, bi x2, bi x3, bi x4, bi x5, bi r1, bi r2, bi r3, bi (r3 / 8), bu] [] (up (up (up (up (up (up (up ι3 104 0 (4 * ι3 13 0 63) x1) 104 0 (4 * ι3 13 0 63 + 1) x2) 104 0 (4 * ι3 13 0 63 + 2) 0) 104 0 (4 * ι3 13 0 63 + 3) (64 * (r3 / 8) + 8 * (r2 % 8) + r3 % 8)) 105 0 (ι3 13 0 63) (-1)) 106 0 (ι3 13 0 63) x2) 13 0 63 (ι3 13 0 63 + 1)) Q
                        else
                          (if r1 = (0 : Int) then
                            bW sc 252 252 [br 13 0, bi x1, bi x2, bi x3, bi x4, bi x5, bi r1, bi r2, bi r3, bi (r3 / 8), bu] [] (up (up (up (up (up (up (up ι3 104 0 (4 * ι3 13 0 63) x1) 104 0 (4 * ι3 13 0 63 + 1) x2) 104 0 (4 * ι3 13 0 63 + 2) 0) 104 0 (4 * ι3 13 0 63 + 3) (64 * (r3 / 8) + 8 * (r2 % 8) + r3 % 8)) 105 0 (ι3 13 0 63) (-1)) 106 0 (ι3 13 0 63) x2) 13 0 63 (ι3 13 0 63 + 1)) Q
                          else
                            bW sc 252 217 [br 13 0, bi x1, bi x2, bi x3, bi x4, bi x5, bi r1, bi r2, bi r3, bi (r3 / 8), bi 0] [] (up (up (up (up (up (up (up ι3 104 0 (4 * ι3 13 0 63) x1) 104 0 (4 * ι3 13 0 63 + 1) x2) 104 0 (4 * ι3 13 0 63 + 2) 0) 104 0 (4 * ι3 13 0 63 + 3) (64 * (r3 / 8) + 8 * (r2 % 8) + r3 % 8)) 105 0 (ι3 13 0 63) (-1)) 106 0 (ι3 13 0 63) x2) 13 0 63 (ι3 13 0 63 + 1)) Q))))
                  else
                    (0 ≤ 4 * ι3 13 0 63 + 1 ∧ 4 * ι3 13 0 63 + 1 < (8100 : Int)) ∧
                    (bm_rg (4 * ι3 13 0 63)) ∧
                    (bm_rg (4 * ι3 13 0 63 + 2)) ∧
                    (if x4 = (0 : Int) then
                      (0 ≤ 4 * ι3 13 0 63 + 2 ∧ 4 * ι3 13 0 63 + 2 < (8100 : Int)) ∧
                      (bm_rg (4 * ι3 13 0 63)) ∧
                      (bm_rg (4 * ι3 13 0 63 + 3)) ∧
                      (bm_rg (64 * (r3 / 8))) ∧
                      (0 ≤ r2 ∧ 0 < (8 : Int)) ∧
                      (bm_rg (8 * (r2 % 8))) ∧
                      (bm_rg (64 * (r3 / 8) + 8 * (r2 % 8))) ∧
                      (0 ≤ r3 ∧ 0 < (8 : Int)) ∧
                      (bm_rg (64 * (r3 / 8) + 8 * (r2 % 8) + r3 % 8)) ∧
                      (0 ≤ 4 * ι3 13 0 63 + 3 ∧ 4 * ι3 13 0 63 + 3 < (8100 : Int)) ∧
                      (if (2 : Int) ≤ r3 / 8 then
                        (0 ≤ ι3 13 0 63 ∧ ι3 13 0 63 < (2100 : Int)) ∧
                        (0 ≤ ι3 13 0 63 ∧ ι3 13 0 63 < (2100 : Int)) ∧
                        (bm_rg (ι3 13 0 63 + 1)) ∧
                        (if x5 = (0 : Int) then
                          bW sc 252 252 [br 13 0, bi x1, bi x2, bi x3, bi x4, bi x5, bi r1, bi r2, bi r3, bi (r3 / 8), bu] [] (up (up (up (up (up (up (up ι3 104 0 (4 * ι3 13 0 63) x1) 104 0 (4 * ι3 13 0 63 + 1) 0) 104 0 (4 * ι3 13 0 63 + 2) x3) 104 0 (4 * ι3 13 0 63 + 3) (64 * (r3 / 8) + 8 * (r2 % 8) + r3 % 8)) 105 0 (ι3 13 0 63) r1) 106 0 (ι3 13 0 63) x2) 13 0 63 (ι3 13 0 63 + 1)) Q
                        else
                          (if r1 = (0 : Int) then
                            bW sc 252 252 [br 13 0, bi x1, bi x2, bi x3, bi x4, bi x5, bi r1, bi r2, bi r3, bi (r3 / 8), bu] [] (up (up (up (up (up (up (up ι3 104 0 (4 * ι3 13 0 63) x1) 104 0 (4 * ι3 13 0 63 + 1) 0) 104 0 (4 * ι3 13 0 63 + 2) x3) 104 0 (4 * ι3 13 0 63 + 3) (64 * (r3 / 8) + 8 * (r2 % 8) + r3 % 8)) 105 0 (ι3 13 0 63) r1) 106 0 (ι3 13 0 63) x2) 13 0 63 (ι3 13 0 63 + 1)) Q
                          else
                            bW sc 252 217 [br 13 0, bi x1, bi x2, bi x3, bi x4, bi x5, bi r1, bi r2, bi r3, bi (r3 / 8), bi 0] [] (up (up (up (up (up (up (up ι3 104 0 (4 * ι3 13 0 63) x1) 104 0 (4 * ι3 13 0 63 + 1) 0) 104 0 (4 * ι3 13 0 63 + 2) x3) 104 0 (4 * ι3 13 0 63 + 3) (64 * (r3 / 8) + 8 * (r2 % 8) + r3 % 8)) 105 0 (ι3 13 0 63) r1) 106 0 (ι3 13 0 63) x2) 13 0 63 (ι3 13 0 63 + 1)) Q))
                      else
                        (0 ≤ ι3 13 0 63 ∧ ι3 13 0 63 < (2100 : Int)) ∧
                        (0 ≤ ι3 13 0 63 ∧ ι3 13 0 63 < (2100 : Int)) ∧
                        (bm_rg (ι3 13 0 63 + 1)) ∧
                        (if x5 = (0 : Int) then
                          bW sc 252 252 [br 13 0, bi x1, bi x2, bi x3, bi x4, bi x5, bi r1, bi r2, bi r3, bi (r3 / 8), bu] [] (up (up (up (up (up (up (up ι3 104 0 (4 * ι3 13 0 63) x1) 104 0 (4 * ι3 13 0 63 + 1) 0) 104 0 (4 * ι3 13 0 63 + 2) x3) 104 0 (4 * ι3 13 0 63 + 3) (64 * (r3 / 8) + 8 * (r2 % 8) + r3 % 8)) 105 0 (ι3 13 0 63) (-1)) 106 0 (ι3 13 0 63) x2) 13 0 63 (ι3 13 0 63 + 1)) Q
                        else
                          (if r1 = (0 : Int) then
                            bW sc 252 252 [br 13 0, bi x1, bi x2, bi x3, bi x4, bi x5, bi r1, bi r2, bi r3, bi (r3 / 8), bu] [] (up (up (up (up (up (up (up ι3 104 0 (4 * ι3 13 0 63) x1) 104 0 (4 * ι3 13 0 63 + 1) 0) 104 0 (4 * ι3 13 0 63 + 2) x3) 104 0 (4 * ι3 13 0 63 + 3) (64 * (r3 / 8) + 8 * (r2 % 8) + r3 % 8)) 105 0 (ι3 13 0 63) (-1)) 106 0 (ι3 13 0 63) x2) 13 0 63 (ι3 13 0 63 + 1)) Q
                          else
                            bW sc 252 217 [br 13 0, bi x1, bi x2, bi x3, bi x4, bi x5, bi r1, bi r2, bi r3, bi (r3 / 8), bi 0] [] (up (up (up (up (up (up (up ι3 104 0 (4 * ι3 13 0 63) x1) 104 0 (4 * ι3 13 0 63 + 1) 0) 104 0 (4 * ι3 13 0 63 + 2) x3) 104 0 (4 * ι3 13 0 63 + 3) (64 * (r3 / 8) + 8 * (r2 % 8) + r3 % 8)) 105 0 (ι3 13 0 63) (-1)) 106 0 (ι3 13 0 63) x2) 13 0 63 (ι3 13 0 63 + 1)) Q)))
                    else
                      (0 ≤ 4 * ι3 13 0 63 + 2 ∧ 4 * ι3 13 0 63 + 2 < (8100 : Int)) ∧
                      (bm_rg (4 * ι3 13 0 63)) ∧
                      (bm_rg (4 * ι3 13 0 63 + 3)) ∧
                      (bm_rg (64 * (r3 / 8))) ∧
                      (0 ≤ r2 ∧ 0 < (8 : Int)) ∧
                      (bm_rg (8 * (r2 % 8))) ∧
                      (bm_rg (64 * (r3 / 8) + 8 * (r2 % 8))) ∧
                      (0 ≤ r3 ∧ 0 < (8 : Int)) ∧
                      (bm_rg (64 * (r3 / 8) + 8 * (r2 % 8) + r3 % 8)) ∧
                      (0 ≤ 4 * ι3 13 0 63 + 3 ∧ 4 * ι3 13 0 63 + 3 < (8100 : Int)) ∧
                      (if (2 : Int) ≤ r3 / 8 then
                        (0 ≤ ι3 13 0 63 ∧ ι3 13 0 63 < (2100 : Int)) ∧
                        (0 ≤ ι3 13 0 63 ∧ ι3 13 0 63 < (2100 : Int)) ∧
                        (bm_rg (ι3 13 0 63 + 1)) ∧
                        (if x5 = (0 : Int) then
                          bW sc 252 252 [br 13 0, bi x1, bi x2, bi x3, bi x4, bi x5, bi r1, bi r2, bi r3, bi (r3 / 8), bu] [] (up (up (up (up (up (up (up ι3 104 0 (4 * ι3 13 0 63) x1) 104 0 (4 * ι3 13 0 63 + 1) 0) 104 0 (4 * ι3 13 0 63 + 2) 0) 104 0 (4 * ι3 13 0 63 + 3) (64 * (r3 / 8) + 8 * (r2 % 8) + r3 % 8)) 105 0 (ι3 13 0 63) r1) 106 0 (ι3 13 0 63) x2) 13 0 63 (ι3 13 0 63 + 1)) Q
                        else
                          (if r1 = (0 : Int) then
                            bW sc 252 252 [br 13 0, bi x1, bi x2, bi x3, bi x4, bi x5, bi r1, bi r2, bi r3, bi (r3 / 8), bu] [] (up (up (up (up (up (up (up ι3 104 0 (4 * ι3 13 0 63) x1) 104 0 (4 * ι3 13 0 63 + 1) 0) 104 0 (4 * ι3 13 0 63 + 2) 0) 104 0 (4 * ι3 13 0 63 + 3) (64 * (r3 / 8) + 8 * (r2 % 8) + r3 % 8)) 105 0 (ι3 13 0 63) r1) 106 0 (ι3 13 0 63) x2) 13 0 63 (ι3 13 0 63 + 1)) Q
                          else
                            bW sc 252 217 [br 13 0, bi x1, bi x2, bi x3, bi x4, bi x5, bi r1, bi r2, bi r3, bi (r3 / 8), bi 0] [] (up (up (up (up (up (up (up ι3 104 0 (4 * ι3 13 0 63) x1) 104 0 (4 * ι3 13 0 63 + 1) 0) 104 0 (4 * ι3 13 0 63 + 2) 0) 104 0 (4 * ι3 13 0 63 + 3) (64 * (r3 / 8) + 8 * (r2 % 8) + r3 % 8)) 105 0 (ι3 13 0 63) r1) 106 0 (ι3 13 0 63) x2) 13 0 63 (ι3 13 0 63 + 1)) Q))
                      else
                        (0 ≤ ι3 13 0 63 ∧ ι3 13 0 63 < (2100 : Int)) ∧
                        (0 ≤ ι3 13 0 63 ∧ ι3 13 0 63 < (2100 : Int)) ∧
                        (bm_rg (ι3 13 0 63 + 1)) ∧
                        (if x5 = (0 : Int) then
                          bW sc 252 252 [br 13 0, bi x1, bi x2, bi x3, bi x4, bi x5, bi r1, bi r2, bi r3, bi (r3 / 8), bu] [] (up (up (up (up (up (up (up ι3 104 0 (4 * ι3 13 0 63) x1) 104 0 (4 * ι3 13 0 63 + 1) 0) 104 0 (4 * ι3 13 0 63 + 2) 0) 104 0 (4 * ι3 13 0 63 + 3) (64 * (r3 / 8) + 8 * (r2 % 8) + r3 % 8)) 105 0 (ι3 13 0 63) (-1)) 106 0 (ι3 13 0 63) x2) 13 0 63 (ι3 13 0 63 + 1)) Q
                        else
                          (if r1 = (0 : Int) then
                            bW sc 252 252 [br 13 0, bi x1, bi x2, bi x3, bi x4, bi x5, bi r1, bi r2, bi r3, bi (r3 / 8), bu] [] (up (up (up (up (up (up (up ι3 104 0 (4 * ι3 13 0 63) x1) 104 0 (4 * ι3 13 0 63 + 1) 0) 104 0 (4 * ι3 13 0 63 + 2) 0) 104 0 (4 * ι3 13 0 63 + 3) (64 * (r3 / 8) + 8 * (r2 % 8) + r3 % 8)) 105 0 (ι3 13 0 63) (-1)) 106 0 (ι3 13 0 63) x2) 13 0 63 (ι3 13 0 63 + 1)) Q
                          else
                            bW sc 252 217 [br 13 0, bi x1, bi x2, bi x3, bi x4, bi x5, bi r1, bi r2, bi r3, bi (r3 / 8), bi 0] [] (up (up (up (up (up (up (up ι3 104 0 (4 * ι3 13 0 63) x1) 104 0 (4 * ι3 13 0 63 + 1) 0) 104 0 (4 * ι3 13 0 63 + 2) 0) 104 0 (4 * ι3 13 0 63 + 3) (64 * (r3 / 8) + 8 * (r2 % 8) + r3 % 8)) 105 0 (ι3 13 0 63) (-1)) 106 0 (ι3 13 0 63) x2) 13 0 63 (ι3 13 0 63 + 1)) Q)))))))
            else
              bW sc 252 57 [br 13 0, bi x1, bi x2, bi x3, bi x4, bi x5, bi r1, bi r2, bi r3, bu, bu] [] ι3 Q)) (bq Q))) (bq Q))) (bq Q))
    else
      bC sc 249 [bi x1, bi 1] ι (bk1 (fun r4 ι4 => 
        bC sc 249 [bi x2, bi 0] ι4 (bk1 (fun r5 ι5 => 
          (if (-1 : Int) = (0 : Int) then
            (if (8 : Int) ≤ r4 then
              bW sc 252 57 [br 13 0, bi x1, bi x2, bi x3, bi x4, bi x5, bi (-1), bi r4, bi r5, bu, bu] [] ι5 Q
            else
              (if (16 : Int) ≤ r5 then
                bW sc 252 57 [br 13 0, bi x1, bi x2, bi x3, bi x4, bi x5, bi (-1), bi r4, bi r5, bu, bu] [] ι5 Q
              else
                (0 ≤ r5 ∧ 0 < (8 : Int)) ∧
                (bm_rg (4 * ι5 13 0 63)) ∧
                (0 ≤ 4 * ι5 13 0 63 ∧ 4 * ι5 13 0 63 < (8100 : Int)) ∧
                (bm_rg (4 * ι5 13 0 63)) ∧
                (bm_rg (4 * ι5 13 0 63 + 1)) ∧
                (if x4 = (0 : Int) then
                  (0 ≤ 4 * ι5 13 0 63 + 1 ∧ 4 * ι5 13 0 63 + 1 < (8100 : Int)) ∧
                  (bm_rg (4 * ι5 13 0 63)) ∧
                  (bm_rg (4 * ι5 13 0 63 + 2)) ∧
                  (if x4 = (0 : Int) then
                    (0 ≤ 4 * ι5 13 0 63 + 2 ∧ 4 * ι5 13 0 63 + 2 < (8100 : Int)) ∧
                    (bm_rg (4 * ι5 13 0 63)) ∧
                    (bm_rg (4 * ι5 13 0 63 + 3)) ∧
                    (bm_rg (64 * (r5 / 8))) ∧
                    (0 ≤ r4 ∧ 0 < (8 : Int)) ∧
                    (bm_rg (8 * (r4 % 8))) ∧
                    (bm_rg (64 * (r5 / 8) + 8 * (r4 % 8))) ∧
                    (0 ≤ r5 ∧ 0 < (8 : Int)) ∧
                    (bm_rg (64 * (r5 / 8) + 8 * (r4 % 8) + r5 % 8)) ∧
                    (0 ≤ 4 * ι5 13 0 63 + 3 ∧ 4 * ι5 13 0 63 + 3 < (8100 : Int)) ∧
                    (if (2 : Int) ≤ r5 / 8 then
                      (0 ≤ ι5 13 0 63 ∧ ι5 13 0 63 < (2100 : Int)) ∧
                      (0 ≤ ι5 13 0 63 ∧ ι5 13 0 63 < (2100 : Int)) ∧
                      (bm_rg (ι5 13 0 63 + 1)) ∧
                      (if x5 = (0 : Int) then
                        bW sc 252 252 [br 13 0, bi x1, bi x2, bi x3, bi x4, bi x5, bi (-1), bi r4, bi r5, bi (r5 / 8), bu] [] (up (up (up (up (up (up (up ι5 104 0 (4 * ι5 13 0 63) x1) 104 0 (4 * ι5 13 0 63 + 1) x2) 104 0 (4 * ι5 13 0 63 + 2) x3) 104 0 (4 * ι5 13 0 63 + 3) (64 * (r5 / 8) + 8 * (r4 % 8) + r5 % 8)) 105 0 (ι5 13 0 63) (-1)) 106 0 (ι5 13 0 63) x2) 13 0 63 (ι5 13 0 63 + 1)) Q
                      else
                        (if (-1 : Int) = (0 : Int) then
                          bW sc 252 252 [br 13 0, bi x1, bi x2, bi x3, bi x4, bi x5, bi (-1), bi r4, bi r5, bi (r5 / 8), bu] [] (up (up (up (up (up (up (up ι5 104 0 (4 * ι5 13 0 63) x1) 104 0 (4 * ι5 13 0 63 + 1) x2) 104 0 (4 * ι5 13 0 63 + 2) x3) 104 0 (4 * ι5 13 0 63 + 3) (64 * (r5 / 8) + 8 * (r4 % 8) + r5 % 8)) 105 0 (ι5 13 0 63) (-1)) 106 0 (ι5 13 0 63) x2) 13 0 63 (ι5 13 0 63 + 1)) Q
                        else
                          bW sc 252 217 [br 13 0, bi x1, bi x2, bi x3, bi x4, bi x5, bi (-1), bi r4, bi r5, bi (r5 / 8), bi 0] [] (up (up (up (up (up (up (up ι5 104 0 (4 * ι5 13 0 63) x1) 104 0 (4 * ι5 13 0 63 + 1) x2) 104 0 (4 * ι5 13 0 63 + 2) x3) 104 0 (4 * ι5 13 0 63 + 3) (64 * (r5 / 8) + 8 * (r4 % 8) + r5 % 8)) 105 0 (ι5 13 0 63) (-1)) 106 0 (ι5 13 0 63) x2) 13 0 63 (ι5 13 0 63 + 1)) Q))
                    else
                      (0 ≤ ι5 13 0 63 ∧ ι5 13 0 63 < (2100 : Int)) ∧
                      (0 ≤ ι5 13 0 63 ∧ ι5 13 0 63 < (2100 : Int)) ∧
                      (bm_rg (ι5 13 0 63 + 1)) ∧
                      (if x5 = (0 : Int) then
                        bW sc 252 252 [br 13 0, bi x1, bi x2, bi x3, bi x4, bi x5, bi (-1), bi r4, bi r5, bi (r5 / 8), bu] [] (up (up (up (up (up (up (up ι5 104 0 (4 * ι5 13 0 63) x1) 104 0 (4 * ι5 13 0 63 + 1) x2) 104 0 (4 * ι5 13 0 63 + 2) x3) 104 0 (4 * ι5 13 0 63 + 3) (64 * (r5 / 8) + 8 * (r4 % 8) + r5 % 8)) 105 0 (ι5 13 0 63) (-1)) 106 0 (ι5 13 0 63) x2) 13 0 63 (ι5 13 0 63 + 1)) Q
                      else
                        (if (-1 : Int) = (0 : Int) then
                          bW sc 252 252 [br 13 0, bi x1, bi x2, bi x3, bi x4, bi x5, bi (-1), bi r4, bi r5, bi (r5 / 8), bu] [] (up (up (up (up (up (up (up ι5 104 0 (4 * ι5 13 0 63) x1) 104 0 (4 * ι5 13 0 63 + 1) x2) 104 0 (4 * ι5 13 0 63 + 2) x3) 104 0 (4 * ι5 13 0 63 + 3) (64 * (r5 / 8) + 8 * (r4 % 8) + r5 % 8)) 105 0 (ι5 13 0 63) (-1)) 106 0 (ι5 13 0 63) x2) 13 0 63 (ι5 13 0 63 + 1)) Q
                        else
                          bW sc 252 217 [br 13 0, bi x1, bi x2, bi x3, bi x4, bi x5, bi (-1), bi r4, bi r5, bi (r5 / 8), bi 0] [] (up (up (up (up (up (up (up ι5 104 0 (4 * ι5 13 0 63) x1) 104 0 (4 * ι5 13 0 63 + 1) x2) 104 0 (4 * ι5 13 0 63 + 2) x3) 104 0 (4 * ι5 13 0 63 + 3) (64 * (r5 / 8) + 8 * (r4 % 8) + r5 % 8)) 105 0 (ι5 13 0 63) (-1)) 106 0 (ι5 13 0 63) x2) 13 0 63 (ι5 13 0 63 + 1)) Q)))
                  else
                    (0 ≤ 4 * ι5 13 0 63 + 2 ∧ 4 * ι5 13 0 63 + 2 < (8100 : Int)) ∧
                    (bm_rg (4 * ι5 13 0 63)) ∧
                    (bm_rg (4 * ι5 13 0 63 + 3)) ∧
                    (bm_rg (64 * (r5 / 8))) ∧
                    (0 ≤ r4 ∧ 0 < (8 : Int)) ∧
                    (bm_rg (8 * (r4 % 8))) ∧
                    (bm_rg (64 * (r5 / 8) + 8 * (r4 % 8))) ∧
                    (0 ≤ r5 ∧ 0 < (8 : Int)) ∧
                    (bm_rg (64 * (r5 / 8) + 8 * (r4 % 8) + r5 % 8)) ∧
                    (0 ≤ 4 * ι5 13 0 63 + 3 ∧ 4 * ι5 13 0 63 + 3 < (8100 : Int)) ∧
                    (if (2 : Int) ≤ r5 / 8 then
                      (0 ≤ ι5 13 0 63 ∧ ι5 13 0 63 < (2100 : Int)) ∧
                      (0 ≤ ι5 13 0 63 ∧ ι5 13 0 63 < (2100 : Int)) ∧
                      (bm_rg (ι5 13 0 63 + 1)) ∧
                      (if x5 = (0 : Int) then
                        bW sc 252 252 [br 13 0, bi x1, bi x2, bi x3, bi x4, bi x5, bi (-1), bi r4, bi r5, bi (r5 / 8), bu] [] (up (up (up (up (up (up (up ι5 104 0 (4 * ι5 13 0 63) x1) 104 0 (4 * ι5 13 0 63 + 1) x2) 104 0 (4 * ι5 13 0 63 + 2) 0) 104 0 (4 * ι5 13 0 63 + 3) (64 * (r5 / 8) + 8 * (r4 % 8) + r5 % 8)) 105 0 (ι5 13 0 63) (-1)) 106 0 (ι5 13 0 63) x2) 13 0 63 (ι5 13 0 63 + 1)) Q
                      else
                        (if (-1 : Int) = (0 : Int) then
                          bW sc 252 252 [br 13 0, bi x1, bi x2, bi x3, bi x4, bi x5, bi (-1), bi r4, bi r5, bi (r5 / 8), bu] [] (up (up (up (up (up (up (up ι5 104 0 (4 * ι5 13 0 63) x1) 104 0 (4 * ι5 13 0 63 + 1) x2) 104 0 (4 * ι5 13 0 63 + 2) 0) 104 0 (4 * ι5 13 0 63 + 3) (64 * (r5 / 8) + 8 * (r4 % 8) + r5 % 8)) 105 0 (ι5 13 0 63) (-1)) 106 0 (ι5 13 0 63) x2) 13 0 63 (ι5 13 0 63 + 1)) Q
                        else
                          bW sc 252 217 [br 13 0, bi x1, bi x2, bi x3, bi x4, bi x5, bi (-1), bi r4, bi r5, bi (r5 / 8), bi 0] [] (up (up (up (up (up (up (up ι5 104 0 (4 * ι5 13 0 63) x1) 104 0 (4 * ι5 13 0 63 + 1) x2) 104 0 (4 * ι5 13 0 63 + 2) 0) 104 0 (4 * ι5 13 0 63 + 3) (64 * (r5 / 8) + 8 * (r4 % 8) + r5 % 8)) 105 0 (ι5 13 0 63) (-1)) 106 0 (ι5 13 0 63) x2) 13 0 63 (ι5 13 0 63 + 1)) Q))
                    else
                      (0 ≤ ι5 13 0 63 ∧ ι5 13 0 63 < (2100 : Int)) ∧
                      (0 ≤ ι5 13 0 63 ∧ ι5 13 0 63 < (2100 : Int)) ∧
                      (bm_rg (ι5 13 0 63 + 1)) ∧
                      (if x5 = (0 : Int) then
                        bW sc 252 252 [br 13 0, bi x1, bi x2, bi x3, bi x4, bi x5, bi (-1), bi r4, bi r5, bi (r5 / 8), bu] [] (up (up (up (up (up (up (up ι5 104 0 (4 * ι5 13 0 63) x1) 104 0 (4 * ι5 13 0 63 + 1) x2) 104 0 (4 * ι5 13 0 63 + 2) 0) 104 0 (4 * ι5 13 0 63 + 3) (64 * (r5 / 8) + 8 * (r4 % 8) + r5 % 8)) 105 0 (ι5 13 0 63) (-1)) 106 0 (ι5 13 0 63) x2) 13 0 63 (ι5 13 0 63 + 1)) Q
                      else
                        (if (-1 : Int) = (0 : Int) then
                          bW sc 252 252 [br 13 0, bi x1, bi x2, bi x3, bi x4, bi x5, bi (-1), bi r4, bi r5, bi (r5 / 8), bu] [] (up (up (up (up (up (up (up ι5 104 0 (4 * ι5 13 0 63) x1) 104 0 (4 * ι5 13 0 63 + 1) x2) 104 0 (4 * ι5 13 0 63 + 2) 0) 104 0 (4 * ι5 13 0 63 + 3) (64 * (r5 / 8) + 8 * (r4 % 8) + r5 % 8)) 105 0 (ι5 13 0 63) (-1)) 106 0 (ι5 13 0 63) x2) 13 0 63 (ι5 13 0 63 + 1)) Q
                        else
                          bW sc 252 217 [br 13 0, bi x1, bi x2, bi x3, bi x4, bi x5, bi (-1), bi r4, bi r5, bi (r5 / 8), bi 0] [] (up (up (up (up (up (up (up ι5 104 0 (4 * ι5 13 0 63) x1) 104 0 (4 * ι5 13 0 63 + 1) x2) 104 0 (4 * ι5 13 0 63 + 2) 0) 104 0 (4 * ι5 13 0 63 + 3) (64 * (r5 / 8) + 8 * (r4 % 8) + r5 % 8)) 105 0 (ι5 13 0 63) (-1)) 106 0 (ι5 13 0 63) x2) 13 0 63 (ι5 13 0 63 + 1)) Q))))
                else
                  (0 ≤ 4 * ι5 13 0 63 + 1 ∧ 4 * ι5 13 0 63 + 1 < (8100 : Int)) ∧
                  (bm_rg (4 * ι5 13 0 63)) ∧
                  (bm_rg (4 * ι5 13 0 63 + 2)) ∧
                  (if x4 = (0 : Int) then
                    (0 ≤ 4 * ι5 13 0 63 + 2 ∧ 4 * ι5 13 0 63 + 2 < (8100 : Int)) ∧
                    (bm_rg (4 * ι5 13 0 63)) ∧
                    (bm_rg (4 * ι5 13 0 63 + 3)) ∧
                    (bm_rg (64 * (r5 / 8))) ∧
                    (0 ≤ r4 ∧ 0 < (8 : Int)) ∧
                    (bm_rg (8 * (r4 % 8))) ∧
                    (bm_rg (64 * (r5 / 8) + 8 * (r4 % 8))) ∧
                    (0 ≤ r5 ∧ 0 < (8 : Int)) ∧
                    (bm_rg (64 * (r5 / 8) + 8 * (r4 % 8) + r5 % 8)) ∧
                    (0 ≤ 4 * ι5 13 0 63 + 3 ∧ 4 * ι5 13 0 63 + 3 < (8100 : Int)) ∧
                    (if (2 : Int) ≤ r5 / 8 then
                      (0 ≤ ι5 13 0 63 ∧ ι5 13 0 63 < (2100 : Int)) ∧
                      (0 ≤ ι5 13 0 63 ∧ ι5 13 0 63 < (2100 : Int)) ∧
                      (bm_rg (ι5 13 0 63 + 1)) ∧
                      (if x5 = (0 : Int) then
                        bW sc 252 252 [br 13 0, bi x1, bi x2, bi x3, bi x4, bi x5, bi (-1), bi r4, bi r5, bi (r5 / 8), bu] [] (up (up (up (up (up (up (up ι5 104 0 (4 * ι5 13 0 63) x1) 104 0 (4 * ι5 13 0 63 + 1) 0) 104 0 (4 * ι5 13 0 63 + 2) x3) 104 0 (4 * ι5 13 0 63 + 3) (64 * (r5 / 8) + 8 * (r4 % 8) + r5 % 8)) 105 0 (ι5 13 0 63) (-1)) 106 0 (ι5 13 0 63) x2) 13 0 63 (ι5 13 0 63 + 1)) Q
                      else
                        (if (-1 : Int) = (0 : Int) then
                          bW sc 252 252 [br 13 0, bi x1, bi x2, bi x3, bi x4, bi x5, bi (-1), bi r4, bi r5, bi (r5 / 8), bu] [] (up (up (up (up (up (up (up ι5 104 0 (4 * ι5 13 0 63) x1) 104 0 (4 * ι5 13 0 63 + 1) 0) 104 0 (4 * ι5 13 0 63 + 2) x3) 104 0 (4 * ι5 13 0 63 + 3) (64 * (r5 / 8) + 8 * (r4 % 8) + r5 % 8)) 105 0 (ι5 13 0 63) (-1)) 106 0 (ι5 13 0 63) x2) 13 0 63 (ι5 13 0 63 + 1)) Q
                        else
                          bW sc 252 217 [br 13 0, bi x1, bi x2, bi x3, bi x4, bi x5, bi (-1), bi r4, bi r5, bi (r5 / 8), bi 0] [] (up (up (up (up (up (up (up ι5 104 0 (4 * ι5 13 0 63) x1) 104 0 (4 * ι5 13 0 63 + 1) 0) 104 0 (4 * ι5 13 0 63 + 2) x3) 104 0 (4 * ι5 13 0 63 + 3) (64 * (r5 / 8) + 8 * (r4 % 8) + r5 % 8)) 105 0 (ι5 13 0 63) (-1)) 106 0 (ι5 13 0 63) x2) 13 0 63 (ι5 13 0 63 + 1)) Q))
                    else
                      (0 ≤ ι5 13 0 63 ∧ ι5 13 0 63 < (2100 : Int)) ∧
                      (0 ≤ ι5 13 0 63 ∧ ι5 13 0 63 < (2100 : Int)) ∧
                      (bm_rg (ι5 13 0 63 + 1)) ∧
                      (if x5 = (0 : Int) then
                        bW sc 252 252 [br 13 0, bi x1, bi x2, bi x3, bi x4, bi x5, bi (-1), bi r4, bi r5, bi (r5 / 8), bu] [] (up (up (up (up (up (up (up ι5 104 0 (4 * ι5 13 0 63) x1) 104 0 (4 * ι5 13 0 63 + 1) 0) 104 0 (4 * ι5 13 0 63 + 2) x3) 104 0 (4 * ι5 13 0 63 + 3) (64 * (r5 / 8) + 8 * (r4 % 8) + r5 % 8)) 105 0 (ι5 13 0 63) (-1)) 106 0 (ι5 13 0 63) x2) 13 0 63 (ι5 13 0 63 + 1)) Q
                      else
                        (if (-1 : Int) = (0 : Int) then
                          bW sc 252 252 [br 13 0, bi x1, bi x2, bi x3, bi x4, bi x5, bi (-1), bi r4, bi r5, bi (r5 / 8), bu] [] (up (up (up (up (up (up (up ι5 104 0 (4 * ι5 13 0 63) x1) 104 0 (4 * ι5 13 0 63 + 1) 0) 104 0 (4 * ι5 13 0 63 + 2) x3) 104 0 (4 * ι5 13 0 63 + 3) (64 * (r5 / 8) + 8 * (r4 % 8) + r5 % 8)) 105 0 (ι5 13 0 63) (-1)) 106 0 (ι5 13 0 63) x2) 13 0 63 (ι5 13 0 63 + 1)) Q
                        else
                          bW sc 252 217 [br 13 0, bi x1, bi x2, bi x3, bi x4, bi x5, bi (-1), bi r4, bi r5, bi (r5 / 8), bi 0] [] (up (up (up (up (up (up (up ι5 104 0 (4 * ι5 13 0 63) x1) 104 0 (4 * ι5 13 0 63 + 1) 0) 104 0 (4 * ι5 13 0 63 + 2) x3) 104 0 (4 * ι5 13 0 63 + 3) (64 * (r5 / 8) + 8 * (r4 % 8) + r5 % 8)) 105 0 (ι5 13 0 63) (-1)) 106 0 (ι5 13 0 63) x2) 13 0 63 (ι5 13 0 63 + 1)) Q)))
                  else
                    (0 ≤ 4 * ι5 13 0 63 + 2 ∧ 4 * ι5 13 0 63 + 2 < (8100 : Int)) ∧
                    (bm_rg (4 * ι5 13 0 63)) ∧
                    (bm_rg (4 * ι5 13 0 63 + 3)) ∧
                    (bm_rg (64 * (r5 / 8))) ∧
                    (0 ≤ r4 ∧ 0 < (8 : Int)) ∧
                    (bm_rg (8 * (r4 % 8))) ∧
                    (bm_rg (64 * (r5 / 8) + 8 * (r4 % 8))) ∧
                    (0 ≤ r5 ∧ 0 < (8 : Int)) ∧
                    (bm_rg (64 * (r5 / 8) + 8 * (r4 % 8) + r5 % 8)) ∧
                    (0 ≤ 4 * ι5 13 0 63 + 3 ∧ 4 * ι5 13 0 63 + 3 < (8100 : Int)) ∧
                    (if (2 : Int) ≤ r5 / 8 then
                      (0 ≤ ι5 13 0 63 ∧ ι5 13 0 63 < (2100 : Int)) ∧
                      (0 ≤ ι5 13 0 63 ∧ ι5 13 0 63 < (2100 : Int)) ∧
                      (bm_rg (ι5 13 0 63 + 1)) ∧
                      (if x5 = (0 : Int) then
                        bW sc 252 252 [br 13 0, bi x1, bi x2, bi x3, bi x4, bi x5, bi (-1), bi r4, bi r5, bi (r5 / 8), bu] [] (up (up (up (up (up (up (up ι5 104 0 (4 * ι5 13 0 63) x1) 104 0 (4 * ι5 13 0 63 + 1) 0) 104 0 (4 * ι5 13 0 63 + 2) 0) 104 0 (4 * ι5 13 0 63 + 3) (64 * (r5 / 8) + 8 * (r4 % 8) + r5 % 8)) 105 0 (ι5 13 0 63) (-1)) 106 0 (ι5 13 0 63) x2) 13 0 63 (ι5 13 0 63 + 1)) Q
                      else
                        (if (-1 : Int) = (0 : Int) then
                          bW sc 252 252 [br 13 0, bi x1, bi x2, bi x3, bi x4, bi x5, bi (-1), bi r4, bi r5, bi (r5 / 8), bu] [] (up (up (up (up (up (up (up ι5 104 0 (4 * ι5 13 0 63) x1) 104 0 (4 * ι5 13 0 63 + 1) 0) 104 0 (4 * ι5 13 0 63 + 2) 0) 104 0 (4 * ι5 13 0 63 + 3) (64 * (r5 / 8) + 8 * (r4 % 8) + r5 % 8)) 105 0 (ι5 13 0 63) (-1)) 106 0 (ι5 13 0 63) x2) 13 0 63 (ι5 13 0 63 + 1)) Q
                        else
                          bW sc 252 217 [br 13 0, bi x1, bi x2, bi x3, bi x4, bi x5, bi (-1), bi r4, bi r5, bi (r5 / 8), bi 0] [] (up (up (up (up (up (up (up ι5 104 0 (4 * ι5 13 0 63) x1) 104 0 (4 * ι5 13 0 63 + 1) 0) 104 0 (4 * ι5 13 0 63 + 2) 0) 104 0 (4 * ι5 13 0 63 + 3) (64 * (r5 / 8) + 8 * (r4 % 8) + r5 % 8)) 105 0 (ι5 13 0 63) (-1)) 106 0 (ι5 13 0 63) x2) 13 0 63 (ι5 13 0 63 + 1)) Q))
                    else
                      (0 ≤ ι5 13 0 63 ∧ ι5 13 0 63 < (2100 : Int)) ∧
                      (0 ≤ ι5 13 0 63 ∧ ι5 13 0 63 < (2100 : Int)) ∧
                      (bm_rg (ι5 13 0 63 + 1)) ∧
                      (if x5 = (0 : Int) then
                        bW sc 252 252 [br 13 0, bi x1, bi x2, bi x3, bi x4, bi x5, bi (-1), bi r4, bi r5, bi (r5 / 8), bu] [] (up (up (up (up (up (up (up ι5 104 0 (4 * ι5 13 0 63) x1) 104 0 (4 * ι5 13 0 63 + 1) 0) 104 0 (4 * ι5 13 0 63 + 2) 0) 104 0 (4 * ι5 13 0 63 + 3) (64 * (r5 / 8) + 8 * (r4 % 8) + r5 % 8)) 105 0 (ι5 13 0 63) (-1)) 106 0 (ι5 13 0 63) x2) 13 0 63 (ι5 13 0 63 + 1)) Q
                      else
                        (if (-1 : Int) = (0 : Int) then
                          bW sc 252 252 [br 13 0, bi x1, bi x2, bi x3, bi x4, bi x5, bi (-1), bi r4, bi r5, bi (r5 / 8), bu] [] (up (up (up (up (up (up (up ι5 104 0 (4 * ι5 13 0 63) x1) 104 0 (4 * ι5 13 0 63 + 1) 0) 104 0 (4 * ι5 13 0 63 + 2) 0) 104 0 (4 * ι5 13 0 63 + 3) (64 * (r5 / 8) + 8 * (r4 % 8) + r5 % 8)) 105 0 (ι5 13 0 63) (-1)) 106 0 (ι5 13 0 63) x2) 13 0 63 (ι5 13 0 63 + 1)) Q
                        else
                          bW sc 252 217 [br 13 0, bi x1, bi x2, bi x3, bi x4, bi x5, bi (-1), bi r4, bi r5, bi (r5 / 8), bi 0] [] (up (up (up (up (up (up (up ι5 104 0 (4 * ι5 13 0 63) x1) 104 0 (4 * ι5 13 0 63 + 1) 0) 104 0 (4 * ι5 13 0 63 + 2) 0) 104 0 (4 * ι5 13 0 63 + 3) (64 * (r5 / 8) + 8 * (r4 % 8) + r5 % 8)) 105 0 (ι5 13 0 63) (-1)) 106 0 (ι5 13 0 63) x2) 13 0 63 (ι5 13 0 63 + 1)) Q)))))))
          else
            bW sc 252 57 [br 13 0, bi x1, bi x2, bi x3, bi x4, bi x5, bi (-1), bi r4, bi r5, bu, bu] [] ι5 Q)) (bq Q))) (bq Q)))) :
  bC sc 252 [br 13 0, bi x1, bi x2, bi x3, bi x4, bi x5] ι Q := bm_snd 252 [57, 217, 252] 112 h
set_option maxRecDepth 100000 in
theorem e_M_addCommand_57 {sc : bm_Sc} {Q : bm_O → bm_S → Prop} {x1 : Int} {x2 : Int} {x3 : Int} {x4 : Int} {x5 : Int} {x6 : Int} {x7 : Int} {x8 : Int} {v9 : bm_V} {v10 : bm_V} {ι : bm_S}
  (h : (0 ≤ x7 ∧ 0 < (8 : Int)) ∧
    (0 ≤ x8 ∧ 0 < (8 : Int)) ∧
    bC sc 250 [bi (x7 / 8), bi (x8 / 8)] ι (bk1 (fun r1 ι1 => 
      (bm_rg (4 * ι1 13 0 63)) ∧
      (0 ≤ 4 * ι1 13 0 63 ∧ 4 * ι1 13 0 63 < (8100 : Int)) ∧
      (bm_rg (4 * ι1 13 0 63)) ∧
      (bm_rg (4 * ι1 13 0 63 + 1)) ∧
      (if x4 = (0 : Int) then
        (0 ≤ 4 * ι1 13 0 63 + 1 ∧ 4 * ι1 13 0 63 + 1 < (8100 : Int)) ∧
        (bm_rg (4 * ι1 13 0 63)) ∧
        (bm_rg (4 * ι1 13 0 63 + 2)) ∧
        (if x4 = (0 : Int) then
          (0 ≤ 4 * ι1 13 0 63 + 2 ∧ 4 * ι1 13 0 63 + 2 < (8100 : Int)) ∧
          (bm_rg (4 * ι1 13 0 63)) ∧
          (bm_rg (4 * ι1 13 0 63 + 3)) ∧
          (bm_rg (64 * r1)) ∧
          (0 ≤ x7 ∧ 0 < (8 : Int)) ∧
          (bm_rg (8 * (x7 % 8))) ∧
          (bm_rg (64 * r1 + 8 * (x7 % 8))) ∧
          (0 ≤ x8 ∧ 0 < (8 : Int)) ∧
          (bm_rg (64 * r1 + 8 * (x7 % 8) + x8 % 8)) ∧
          (0 ≤ 4 * ι1 13 0 63 + 3 ∧ 4 * ι1 13 0 63 + 3 < (8100 : Int)) ∧
          (if (2 : Int) ≤ r1 then
            (0 ≤ ι1 13 0 63 ∧ ι1 13 0 63 < (2100 : Int)) ∧
            (0 ≤ ι1 13 0 63 ∧ ι1 13 0 63 < (2100 : Int)) ∧
            (bm_rg (ι1 13 0 63 + 1)) ∧
            (if x5 = (0 : Int) then
              bW sc 252 252 [br 13 0, bi x1, bi x2, bi x3, bi x4, bi x5, bi x6, bi x7, bi x8, bi r1, v10] [] (up (up (up (up (up (up (up ι1 104 0 (4 * ι1 13 0 63) x1) 104 0 (4 * ι1 13 0 63 + 1) x2) 104 0 (4 * ι1 13 0 63 + 2) x3) 104 0 (4 * ι1 13 0 63 + 3) (64 * r1 + 8 * (x7 % 8) + x8 % 8)) 105 0 (ι1 13 0 63) x6) 106 0 (ι1 13 0 63) x2) 13 0 63 (ι1 13 0 63 + 1)) Q
            else
              (if x6 = (0 : Int) then
                bW sc 252 252 [br 13 0, bi x1, bi x2, bi x3, bi x4, bi x5, bi x6, bi x7, bi x8, bi r1, v10] [] (up (up (up (up (up (up (up ι1 104 0 (4 * ι1 13 0 63) x1) 104 0 (4 * ι1 13 0 63 + 1) x2) 104 0 (4 * ι1 13 0 63 + 2) x3) 104 0 (4 * ι1 13 0 63 + 3) (64 * r1 + 8 * (x7 % 8) + x8 % 8)) 105 0 (ι1 13 0 63) x6) 106 0 (ι1 13 0 63) x2) 13 0 63 (ι1 13 0 63 + 1)) Q
              else
                bW sc 252 217 [br 13 0, bi x1, bi x2, bi x3, bi x4, bi x5, bi x6, bi x7, bi x8, bi r1, bi 0] [] (up (up (up (up (up (up (up ι1 104 0 (4 * ι1 13 0 63) x1) 104 0 (4 * ι1 13 0 63 + 1) x2) 104 0 (4 * ι1 13 0 63 + 2) x3) 104 0 (4 * ι1 13 0 63 + 3) (64 * r1 + 8 * (x7 % 8) + x8 % 8)) 105 0 (ι1 13 0 63) x6) 106 0 (ι1 13 0 63) x2) 13 0 63 (ι1 13 0 63 + 1)) Q))
          else
            (0 ≤ ι1 13 0 63 ∧ ι1 13 0 63 < (2100 : Int)) ∧
            (0 ≤ ι1 13 0 63 ∧ ι1 13 0 63 < (2100 : Int)) ∧
            (bm_rg (ι1 13 0 63 + 1)) ∧
            (if x5 = (0 : Int) then
              bW sc 252 252 [br 13 0, bi x1, bi x2, bi x3, bi x4, bi x5, bi x6, bi x7, bi x8, bi r1, v10] [] (up (up (up (up (up (up (up ι1 104 0 (4 * ι1 13 0 63) x1) 104 0 (4 * ι1 13 0 63 + 1) x2) 104 0 (4 * ι1 13 0 63 + 2) x3) 104 0 (4 * ι1 13 0 63 + 3) (64 * r1 + 8 * (x7 % 8) + x8 % 8)) 105 0 (ι1 13 0 63) (-1)) 106 0 (ι1 13 0 63) x2) 13 0 63 (ι1 13 0 63 + 1)) Q
            else
              (if x6 = (0 : Int) then
                bW sc 252 252 [br 13 0, bi x1, bi x2, bi x3, bi x4, bi x5, bi x6, bi x7, bi x8, bi r1, v10] [] (up (up (up (up (up (up (up ι1 104 0 (4 * ι1 13 0 63) x1) 104 0 (4 * ι1 13 0 63 + 1) x2) 104 0 (4 * ι1 13 0 63 + 2) x3) 104 0 (4 * ι1 13 0 63 + 3) (64 * r1 + 8 * (x7 % 8) + x8 % 8)) 105 0 (ι1 13 0 63) (-1)) 106 0 (ι1 13 0 63) x2) 13 0 63 (ι1 13 0 63 + 1)) Q
              else
                bW sc 252 217 [br 13 0, bi x1, bi x2, bi x3, bi x4, bi x5, bi x6, bi x7, bi x8, bi r1, bi 0] [] (up (up (up (up (up (up (up ι1 104 0 (4 * ι1 13 0 63) x1) 104 0 (4 * ι1 13 0 63 + 1) x2) 104 0 (4 * ι1 13 0 63 + 2) x3) 104 0 (4 * ι1 13 0 63 + 3) (64 * r1 + 8 * (x7 % 8) + x8 % 8)) 105 0 (ι1 13 0 63) (-1)) 106 0 (ι1 13 0 63) x2) 13 0 63 (ι1 13 0 63 + 1)) Q)))
        else
          (0 ≤ 4 * ι1 13 0 63 + 2 ∧ 4 * ι1 13 0 63 + 2 < (8100 : Int)) ∧
          (bm_rg (4 * ι1 13 0 63)) ∧
          (bm_rg (4 * ι1 13 0 63 + 3)) ∧
          (bm_rg (64 * r1)) ∧
          (0 ≤ x7 ∧ 0 < (8 : Int)) ∧
          (bm_rg (8 * (x7 % 8))) ∧
          (bm_rg (64 * r1 + 8 * (x7 % 8))) ∧
          (0 ≤ x8 ∧ 0 < (8 : Int)) ∧
          (bm_rg (64 * r1 + 8 * (x7 % 8) + x8 % 8)) ∧
          (0 ≤ 4 * ι1 13 0 63 + 3 ∧ 4 * ι1 13 0 63 + 3 < (8100 : Int)) ∧
          (if (2 : Int) ≤ r1 then
            (0 ≤ ι1 13 0 63 ∧ ι1 13 0 63 < (2100 : Int)) ∧
            (0 ≤ ι1 13 0 63 ∧ ι1 13 0 63 < (2100 : Int)) ∧
            (bm_rg (ι1 13 0 63 + 1)) ∧
            (if x5 = (0 : Int) then
              bW sc 252 252 [br 13 0, bi x1, bi x2, bi x3, bi x4, bi x5, bi x6, bi x7, bi x8, bi r1, v10] [] (up (up (up (up (up (up (up ι1 104 0 (4 * ι1 13 0 63) x1) 104 0 (4 * ι1 13 0 63 + 1) x2) 104 0 (4 * ι1 13 0 63 + 2) 0) 104 0 (4 * ι1 13 0 63 + 3) (64 * r1 + 8 * (x7 % 8) + x8 % 8)) 105 0 (ι1 13 0 63) x6) 106 0 (ι1 13 0 63) x2) 13 0 63 (ι1 13 0 63 + 1)) Q
            else
              (if x6 = (0 : Int) then
                bW sc 252 252 [br 13 0, bi x1, bi x2, bi x3, bi x4, bi x5, bi x6, bi x7, bi x8, bi r1, v10] [] (up (up (up (up (up (up (up ι1 104 0 (4 * ι1 13 0 63) x1) 104 0 (4 * ι1 13 0 63 + 1) x2) 104 0 (4 * ι1 13 0 63 + 2) 0) 104 0 (4 * ι1 13 0 63 + 3) (64 * r1 + 8 * (x7 % 8) + x8 % 8)) 105 0 (ι1 13 0 63) x6) 106 0 (ι1 13 0 63) x2) 13 0 63 (ι1 13 0 63 + 1)) Q
              else
                bW sc 252 217 [br 13 0, bi x1, bi x2, bi x3, bi x4, bi x5, bi x6, bi x7, bi x8, bi r1, bi 0] [] (up (up (up (up (up (up (up ι1 104 0 (4 * ι1 13 0 63) x1) 104 0 (4 * ι1 13 0 63 + 1) x2) 104 0 (4 * ι1 13 0 63 + 2) 0) 104 0 (4 * ι1 13 0 63 + 3) (64 * r1 + 8 * (x7 % 8) + x8 % 8)) 105 0 (ι1 13 0 63) x6) 106 0 (ι1 13 0 63) x2) 13 0 63 (ι1 13 0 63 + 1)) Q))
          else
            (0 ≤ ι1 13 0 63 ∧ ι1 13 0 63 < (2100 : Int)) ∧
            (0 ≤ ι1 13 0 63 ∧ ι1 13 0 63 < (2100 : Int)) ∧
            (bm_rg (ι1 13 0 63 + 1)) ∧
            (if x5 = (0 : Int) then
              bW sc 252 252 [br 13 0, bi x1, bi x2, bi x3, bi x4, bi x5, bi x6, bi x7, bi x8, bi r1, v10] [] (up (up (up (up (up (up (up ι1 104 0 (4 * ι1 13 0 63) x1) 104 0 (4 * ι1 13 0 63 + 1) x2) 104 0 (4 * ι1 13 0 63 + 2) 0) 104 0 (4 * ι1 13 0 63 + 3) (64 * r1 + 8 * (x7 % 8) + x8 % 8)) 105 0 (ι1 13 0 63) (-1)) 106 0 (ι1 13 0 63) x2) 13 0 63 (ι1 13 0 63 + 1)) Q
            else
              (if x6 = (0 : Int) then
                bW sc 252 252 [br 13 0, bi x1, bi x2, bi x3, bi x4, bi x5, bi x6, bi x7, bi x8, bi r1, v10] [] (up (up (up (up (up (up (up ι1 104 0 (4 * ι1 13 0 63) x1) 104 0 (4 * ι1 13 0 63 + 1) x2) 104 0 (4 * ι1 13 0 63 + 2) 0) 104 0 (4 * ι1 13 0 63 + 3) (64 * r1 + 8 * (x7 % 8) + x8 % 8)) 105 0 (ι1 13 0 63) (-1)) 106 0 (ι1 13 0 63) x2) 13 0 63 (ι1 13 0 63 + 1)) Q
              else
                bW sc 252 217 [br 13 0, bi x1, bi x2, bi x3, bi x4, bi x5, bi x6, bi x7, bi x8, bi r1, bi 0] [] (up (up (up (up (up (up (up ι1 104 0 (4 * ι1 13 0 63) x1) 104 0 (4 * ι1 13 0 63 + 1) x2) 104 0 (4 * ι1 13 0 63 + 2) 0) 104 0 (4 * ι1 13 0 63 + 3) (64 * r1 + 8 * (x7 % 8) + x8 % 8)) 105 0 (ι1 13 0 63) (-1)) 106 0 (ι1 13 0 63) x2) 13 0 63 (ι1 13 0 63 + 1)) Q))))
      else
        (0 ≤ 4 * ι1 13 0 63 + 1 ∧ 4 * ι1 13 0 63 + 1 < (8100 : Int)) ∧
        (bm_rg (4 * ι1 13 0 63)) ∧
        (bm_rg (4 * ι1 13 0 63 + 2)) ∧
        (if x4 = (0 : Int) then
          (0 ≤ 4 * ι1 13 0 63 + 2 ∧ 4 * ι1 13 0 63 + 2 < (8100 : Int)) ∧
          (bm_rg (4 * ι1 13 0 63)) ∧
          (bm_rg (4 * ι1 13 0 63 + 3)) ∧
          (bm_rg (64 * r1)) ∧
          (0 ≤ x7 ∧ 0 < (8 : Int)) ∧
          (bm_rg (8 * (x7 % 8))) ∧
          (bm_rg (64 * r1 + 8 * (x7 % 8))) ∧
          (0 ≤ x8 ∧ 0 < (8 : Int)) ∧
          (bm_rg (64 * r1 + 8 * (x7 % 8) + x8 % 8)) ∧
          (0 ≤ 4 * ι1 13 0 63 + 3 ∧ 4 * ι1 13 0 63 + 3 < (8100 : Int)) ∧
          (if (2 : Int) ≤ r1 then
            (0 ≤ ι1 13 0 63 ∧ ι1 13 0 63 < (2100 : Int)) ∧
            (0 ≤ ι1 13 0 63 ∧ ι1 13 0 63 < (2100 : Int)) ∧
            (bm_rg (ι1 13 0 63 + 1)) ∧
            (if x5 = (0 : Int) then
              bW sc 252 252 [br 13 0, bi x1, bi x2, bi x3, bi x4, bi x5, bi x6, bi x7, bi x8, bi r1, v10] [] (up (up (up (up (up (up (up ι1 104 0 (4 * ι1 13 0 63) x1) 104 0 (4 * ι1 13 0 63 + 1) 0) 104 0 (4 * ι1 13 0 63 + 2) x3) 104 0 (4 * ι1 13 0 63 + 3) (64 * r1 + 8 * (x7 % 8) + x8 % 8)) 105 0 (ι1 13 0 63) x6) 106 0 (ι1 13 0 63) x2) 13 0 63 (ι1 13 0 63 + 1)) Q
            else
              (if x6 = (0 : Int) then
                bW sc 252 252 [br 13 0, bi x1, bi x2, bi x3, bi x4, bi x5, bi x6, bi x7, bi x8, bi r1, v10] [] (up (up (up (up (up (up (up ι1 104 0 (4 * ι1 13 0 63) x1) 104 0 (4 * ι1 13 0 63 + 1) 0) 104 0 (4 * ι1 13 0 63 + 2) x3) 104 0 (4 * ι1 13 0 63 + 3) (64 * r1 + 8 * (x7 % 8) + x8 % 8)) 105 0 (ι1 13 0 63) x6) 106 0 (ι1 13 0 63) x2) 13 0 63 (ι1 13 0 63 + 1)) Q
              else
                bW sc 252 217 [br 13 0, bi x1, bi x2, bi x3, bi x4, bi x5, bi x6, bi x7, bi x8, bi r1, bi 0] [] (up (up (up (up (up (up (up ι1 104 0 (4 * ι1 13 0 63) x1) 104 0 (4 * ι1 13 0 63 + 1) 0) 104 0 (4 * ι1 13 0 63 + 2) x3) 104 0 (4 * ι1 13 0 63 + 3) (64 * r1 + 8 * (x7 % 8) + x8 % 8)) 105 0 (ι1 13 0 63) x6) 106 0 (ι1 13 0 63) x2) 13 0 63 (ι1 13 0 63 + 1)) Q))
          else
            (0 ≤ ι1 13 0 63 ∧ ι1 13 0 63 < (2100 : Int)) ∧
            (0 ≤ ι1 13 0 63 ∧ ι1 13 0 63 < (2100 : Int)) ∧
            (bm_rg (ι1 13 0 63 + 1)) ∧
            (if x5 = (0 : Int) then
              bW sc 252 252 [br 13 0, bi x1, bi x2, bi x3, bi x4, bi x5, bi x6, bi x7, bi x8, bi r1, v10] [] (up (up (up (up (up (up (up ι1 104 0 (4 * ι1 13 0 63) x1) 104 0 (4 * ι1 13 0 63 + 1) 0) 104 0 (4 * ι1 13 0 63 + 2) x3) 104 0 (4 * ι1 13 0 63 + 3) (64 * r1 + 8 * (x7 % 8) + x8 % 8)) 105 0 (ι1 13 0 63) (-1)) 106 0 (ι1 13 0 63) x2) 13 0 63 (ι1 13 0 63 + 1)) Q
            else
              (if x6 = (0 : Int) then
                bW sc 252 252 [br 13 0, bi x1, bi x2, bi x3, bi x4, bi x5, bi x6, bi x7, bi x8, bi r1, v10] [] (up (up (up (up (up (up (up ι1 104 0 (4 * ι1 13 0 63) x1) 104 0 (4 * ι1 13 0 63 + 1) 0) 104 0 (4 * ι1 13 0 63 + 2) x3) 104 0 (4 * ι1 13 0 63 + 3) (64 * r1 + 8 * (x7 % 8) + x8 % 8)) 105 0 (ι1 13 0 63) (-1)) 106 0 (ι1 13 0 63) x2) 13 0 63 (ι1 13 0 63 + 1)) Q
              else
                bW sc 252 217 [br 13 0, bi x1, bi x2, bi x3, bi x4, bi x5, bi x6, bi x7, bi x8, bi r1, bi 0] [] (up (up (up (up (up (up (up ι1 104 0 (4 * ι1 13 0 63) x1) 104 0 (4 * ι1 13 0 63 + 1) 0) 104 0 (4 * ι1 13 0 63 + 2) x3) 104 0 (4 * ι1 13 0 63 + 3) (64 * r1 + 8 * (x7 % 8) + x8 % 8)) 105 0 (ι1 13 0 63) (-1)) 106 0 (ι1 13 0 63) x2) 13 0 63 (ι1 13 0 63 + 1)) Q)))
        else
          (0 ≤ 4 * ι1 13 0 63 + 2 ∧ 4 * ι1 13 0 63 + 2 < (8100 : Int)) ∧
          (bm_rg (4 * ι1 13 0 63)) ∧
          (bm_rg (4 * ι1 13 0 63 + 3)) ∧
          (bm_rg (64 * r1)) ∧
          (0 ≤ x7 ∧ 0 < (8 : Int)) ∧
          (bm_rg (8 * (x7 % 8))) ∧
          (bm_rg (64 * r1 + 8 * (x7 % 8))) ∧
          (0 ≤ x8 ∧ 0 < (8 : Int)) ∧
          (bm_rg (64 * r1 + 8 * (x7 % 8) + x8 % 8)) ∧
          (0 ≤ 4 * ι1 13 0 63 + 3 ∧ 4 * ι1 13 0 63 + 3 < (8100 : Int)) ∧
          (if (2 : Int) ≤ r1 then
            (0 ≤ ι1 13 0 63 ∧ ι1 13 0 63 < (2100 : Int)) ∧
            (0 ≤ ι1 13 0 63 ∧ ι1 13 0 63 < (2100 : Int)) ∧
            (bm_rg (ι1 13 0 63 + 1)) ∧
            (if x5 = (0 : Int) then
              bW sc 252 252 [br 13 0, bi x1, bi x2, bi x3, bi x4, bi x5, bi x6, bi x7, bi x8, bi r1, v10] [] (up (up (up (up (up (up (up ι1 104 0 (4 * ι1 13 0 63) x1) 104 0 (4 * ι1 13 0 63 + 1) 0) 104 0 (4 * ι1 13 0 63 + 2) 0) 104 0 (4 * ι1 13 0 63 + 3) (64 * r1 + 8 * (x7 % 8) + x8 % 8)) 105 0 (ι1 13 0 63) x6) 106 0 (ι1 13 0 63) x2) 13 0 63 (ι1 13 0 63 + 1)) Q
            else
              (if x6 = (0 : Int) then
                bW sc 252 252 [br 13 0, bi x1, bi x2, bi x3, bi x4, bi x5, bi x6, bi x7, bi x8, bi r1, v10] [] (up (up (up (up (up (up (up ι1 104 0 (4 * ι1 13 0 63) x1) 104 0 (4 * ι1 13 0 63 + 1) 0) 104 0 (4 * ι1 13 0 63 + 2) 0) 104 0 (4 * ι1 13 0 63 + 3) (64 * r1 + 8 * (x7 % 8) + x8 % 8)) 105 0 (ι1 13 0 63) x6) 106 0 (ι1 13 0 63) x2) 13 0 63 (ι1 13 0 63 + 1)) Q
              else
                bW sc 252 217 [br 13 0, bi x1, bi x2, bi x3, bi x4, bi x5, bi x6, bi x7, bi x8, bi r1, bi 0] [] (up (up (up (up (up (up (up ι1 104 0 (4 * ι1 13 0 63) x1) 104 0 (4 * ι1 13 0 63 + 1) 0) 104 0 (4 * ι1 13 0 63 + 2) 0) 104 0 (4 * ι1 13 0 63 + 3) (64 * r1 + 8 * (x7 % 8) + x8 % 8)) 105 0 (ι1 13 0 63) x6) 106 0 (ι1 13 0 63) x2) 13 0 63 (ι1 13 0 63 + 1)) Q))
          else
            (0 ≤ ι1 13 0 63 ∧ ι1 13 0 63 < (2100 : Int)) ∧
            (0 ≤ ι1 13 0 63 ∧ ι1 13 0 63 < (2100 : Int)) ∧
            (bm_rg (ι1 13 0 63 + 1)) ∧
            (if x5 = (0 : Int) then
              bW sc 252 252 [br 13 0, bi x1, bi x2, bi x3, bi x4, bi x5, bi x6, bi x7, bi x8, bi r1, v10] [] (up (up (up (up (up (up (up ι1 104 0 (4 * ι1 13 0 63) x1) 104 0 (4 * ι1 13 0 63 + 1) 0) 104 0 (4 * ι1 13 0 63 + 2) 0) 104 0 (4 * ι1 13 0 63 + 3) (64 * r1 + 8 * (x7 % 8) + x8 % 8)) 105 0 (ι1 13 0 63) (-1)) 106 0 (ι1 13 0 63) x2) 13 0 63 (ι1 13 0 63 + 1)) Q
            else
              (if x6 = (0 : Int) then
                bW sc 252 252 [br 13 0, bi x1, bi x2, bi x3, bi x4, bi x5, bi x6, bi x7, bi x8, bi r1, v10] [] (up (up (up (up (up (up (up ι1 104 0 (4 * ι1 13 0 63) x1) 104 0 (4 * ι1 13 0 63 + 1) 0) 104 0 (4 * ι1 13 0 63 + 2) 0) 104 0 (4 * ι1 13 0 63 + 3) (64 * r1 + 8 * (x7 % 8) + x8 % 8)) 105 0 (ι1 13 0 63) (-1)) 106 0 (ι1 13 0 63) x2) 13 0 63 (ι1 13 0 63 + 1)) Q
              else
                bW sc 252 217 [br 13 0, bi x1, bi x2, bi x3, bi x4, bi x5, bi x6, bi x7, bi x8, bi r1, bi 0] [] (up (up (up (up (up (up (up ι1 104 0 (4 * ι1 13 0 63) x1) 104 0 (4 * ι1 13 0 63 + 1) 0) 104 0 (4 * ι1 13 0 63 + 2) 0) 104 0 (4 * ι1 13 0 63 + 3) (64 * r1 + 8 * (x7 % 8) + x8 % 8)) 105 0 (ι1 13 0 63) (-1)) 106 0 (ι1 13 0 63) x2) 13 0 63 (ι1 13 0 63 + 1)) Q)))))) (bq Q))) :
  bW sc 252 57 [br 13 0, bi x1, bi x2, bi x3, bi x4, bi x5, bi x6, bi x7, bi x8, v9, v10] [] ι Q := bm_snd 252 [57, 217, 252] 93 h
