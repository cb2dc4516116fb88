-- F_start
set_option maxRecDepth 100000 in
theorem e_F_start_0 {sc : bm_Sc} {Q : bm_O → bm_S → Prop}  {ι : bm_S}
  (h : bC sc 260 [br 39 0, bi (-1)] (up (up ι 6 0 11 (min (ι 2 0 1) 2000)) 6 0 10 0) (bk0 (fun ι1 => 
      bC sc 260 [br 41 0, bi (-1)] ι1 (bk0 (fun ι2 => 
        bW sc 52 40 [br 6 0, bi 4, bu, bu, bu, bu] [] ι2 Q) (bq Q))) (bq Q))) :
  bC sc 52 [br 6 0] ι Q := bm_snd 52 [40, 48, 62] 21 h
set_option maxRecDepth 100000 in
theorem e_F_start_40 {sc : bm_Sc} {Q : bm_O → bm_S → Prop} {x1 : Int} {v2 : bm_V} {v3 : bm_V} {v4 : bm_V} {v5 : bm_V} {ι : bm_S}
  (h : (if (10 : Int) < x1 then
      Q (.inl none) ι
    else
      bW sc 52 48 [br 6 0, bi x1, bi 0, v3, v4, v5] [] ι Q)) :
  bW sc 52 40 [br 6 0, bi x1, v2, v3, v4, v5] [] ι Q := bm_snd 52 [40, 48, 62] 6 h
set_option maxRecDepth 100000 in
theorem e_F_start_48 {sc : bm_Sc} {Q : bm_O → bm_S → Prop} {x1 : Int} {x2 : Int} {v3 : bm_V} {v4 : bm_V} {v5 : bm_V} {ι : bm_S}
  (h : bC sc 109 [br 10 0, bi x1] ι (bk1 (fun r1 ι1 => 
      (if r1 ≤ x2 then
        (bm_rg (x1 + 1)) ∧
        bW sc 52 40 [br 6 0, bi (x1 + 1), bi x2, v3, v4, v5] [] ι1 Q
      else
        bW sc 52 62 [br 6 0, bi x1, bi x2, bi 0, v4, v5] [] ι1 Q)) (bq Q))) :
  bW sc 52 48 [br 6 0, bi x1, bi x2, v3, v4, v5] [] ι Q := bm_snd 52 [40, 48, 62] 9 h
set_option maxRecDepth 100000 in
theorem e_F_start_62 {sc : bm_Sc} {Q : bm_O → bm_S → Prop} {x1 : Int} {x2 : Int} {x3 : Int} {v4 : bm_V} {v5 : bm_V} {ι : bm_S}
  (h : (if (6 : Int) ≤ x3 then
      (bm_rg (x2 + 1)) ∧
      bW sc 52 48 [br 6 0, bi x1, bi (x2 + 1), bi x3, v4, v5] [] ι Q
    else
      (bm_rg (x1 - 4)) ∧
      (bm_rg ((x1 - 4) * 32)) ∧
      (bm_rg ((x1 - 4) * 32 + x2)) ∧
      (bm_rg (((x1 - 4) * 32 + x2) * 6)) ∧
      (bm_rg (((x1 - 4) * 32 + x2) * 6 + x3)) ∧
      bC sc 116 [br 10 0, bi x1, bi x2, bi x3, bi 0] ι (bk1 (fun r1 ι1 => 
        bC sc 116 [br 10 0, bi x1, bi x2, bi x3, bi 1] ι1 (bk1 (fun r2 ι2 => 
          bC sc 54 [bi r1, bi r2] ι2 (bk1 (fun r3 ι3 => 
            (0 ≤ r3 ∧ r3 < (256 : Int)) ∧
            (0 ≤ ((x1 - 4) * 32 + x2) * 6 + x3 ∧ ((x1 - 4) * 32 + x2) * 6 + x3 < (1344 : Int)) ∧
            (0 ≤ r3 ∧ r3 < (256 : Int)) ∧
            (bm_rg (x3 + 1)) ∧
            bW sc 52 62 [br 6 0, bi x1, bi x2, bi (x3 + 1), bi (((x1 - 4) * 32 + x2) * 6 + x3), bi r3] [] (up (up ι3 42 0 (((x1 - 4) * 32 + x2) * 6 + x3) (ι3 41 0 r3)) 41 0 r3 (((x1 - 4) * 32 + x2) * 6 + x3)) Q) (bq Q))) (bq Q))) (bq Q)))) :
  bW sc 52 62 [br 6 0, bi x1, bi x2, bi x3, v4, v5] [] ι Q := bm_snd 52 [40, 48, 62] 47 h
-- F_look
set_option maxRecDepth 100000 in
theorem e_F_look_0 {sc : bm_Sc} {Q : bm_O → bm_S → Prop} {x1 : Int} {ι : bm_S}
  (h : (if x1 < (0 : Int) then
      Q (.inl none) ι
    else
      (if x1 < ι 6 0 11 then
        bW sc 53 13 [br 6 0, bi x1, bu] [] ι Q
      else
        Q (.inl none) ι))) :
  bC sc 53 [br 6 0, bi x1] ι Q := bm_snd 53 [13] 7 h
set_option maxRecDepth 100000 in
theorem e_F_look_13 {sc : bm_Sc} {Q : bm_O → bm_S → Prop} {x1 : Int} {v2 : bm_V} {ι : bm_S}
  (h : (if x1 ≤ ι 6 0 10 then
      bC sc 56 [br 6 0, bi x1] ι (bk0 (fun ι1 => 
        (0 ≤ x1 ∧ x1 < (2000 : Int)) ∧
        (0 ≤ x1 ∧ x1 < (2000 : Int)) ∧
        bC sc 58 [br 6 0, bi x1, bi x1, bi 0] (up (up ι1 37 0 x1 0) 38 0 x1 0) (bk0 (fun ι2 => 
          bC sc 15 [br 2 0, bi x1] ι2 (bk1 (fun r3 ι3 => 
            (if r3 = (32 : Int) then
              (bm_rg (x1 + 1)) ∧
              bC sc 58 [br 6 0, bi x1, bi (x1 + 1), bi 1] ι3 (bk0 (fun ι4 => 
                Q (.inl none) ι4) (bq Q))
            else
              Q (.inl none) ι3)) (bq Q))) (bq Q))) (bq Q))
    else
      bC sc 55 [br 6 0, bi (ι 6 0 10)] ι (bk1 (fun r5 ι5 => 
        (0 ≤ r5 ∧ r5 < (1024 : Int)) ∧
        (0 ≤ ι5 6 0 10 ∧ ι5 6 0 10 < (2000 : Int)) ∧
        (0 ≤ r5 ∧ r5 < (1024 : Int)) ∧
        (bm_rg (ι5 6 0 10 + 1)) ∧
        bW sc 53 13 [br 6 0, bi x1, bi r5] [] (up (up (up ι5 40 0 (ι5 6 0 10) (ι5 39 0 r5)) 39 0 r5 (ι5 6 0 10)) 6 0 10 (ι5 6 0 10 + 1)) Q) (bq Q)))) :
  bW sc 53 13 [br 6 0, bi x1, v2] [] ι Q := bm_snd 53 [13] 36 h
-- F_pairHash
set_option maxRecDepth 100000 in
theorem e_F_pairHash_0 {sc : bm_Sc} {Q : bm_O → bm_S → Prop} {x0 : Int} {x1 : Int} {ι : bm_S}
  (h : (bm_rg (33 * x0)) ∧
    (bm_rg (33 * x0 + x1)) ∧
    Q (.inl (some (bi ((33 * x0 + x1) % 256)))) ι) :
  bC sc 54 [bi x0, bi x1] ι Q := bm_snd 54 [] 8 h
-- F_hash
set_option maxRecDepth 100000 in
theorem e_F_hash_0 {sc : bm_Sc} {Q : bm_O → bm_S → Prop} {x1 : Int} {ι : bm_S}
  (h : bC sc 15 [br 2 0, bi x1] ι (bk1 (fun r1 ι1 => 
      (bm_rg (x1 + 1)) ∧
      bC sc 15 [br 2 0, bi (x1 + 1)] ι1 (bk1 (fun r2 ι2 => 
        (bm_rg (33 * r2)) ∧
        (bm_rg (r1 + 33 * r2)) ∧
        (bm_rg (x1 + 2)) ∧
        bC sc 15 [br 2 0, bi (x1 + 2)] ι2 (bk1 (fun r3 ι3 => 
          (bm_rg (1025 * r3)) ∧
          (bm_rg (r1 + 33 * r2 + 1025 * r3)) ∧
          (bm_rg (x1 + 3)) ∧
          bC sc 15 [br 2 0, bi (x1 + 3)] ι3 (bk1 (fun r4 ι4 => 
            (bm_rg (4099 * r4)) ∧
            (bm_rg (r1 + 33 * r2 + 1025 * r3 + 4099 * r4)) ∧
            (0 ≤ (10 : Int) ∧ (10 : Int) < 32) ∧
            Q (.inl (some (bi (bm_xor (r1 + 33 * r2 + 1025 * r3 + 4099 * r4) ((r1 + 33 * r2 + 1025 * r3 + 4099 * r4) / 1024) % 1024)))) ι4) (bq Q))) (bq Q))) (bq Q))) (bq Q))) :
  bC sc 55 [br 6 0, bi x1] ι Q := bm_snd 55 [] 40 h
-- F_findCopy
set_option maxRecDepth 100000 in
theorem e_F_findCopy_0 {sc : bm_Sc} {Q : bm_O → bm_S → Prop} {x1 : Int} {ι : bm_S}
  (h : (bm_rg (ι 6 0 11 - x1)) ∧
    (if (4 : Int) ≤ min 200 (ι 6 0 11 - x1) then
      bC sc 55 [br 6 0, bi x1] ι (bk1 (fun r1 ι1 => 
        (0 ≤ r1 ∧ r1 < (1024 : Int)) ∧
        bW sc 56 42 [br 6 0, bi x1, bi (min 200 (ι 6 0 11 - x1)), bi 3, bi 0, bi (ι1 39 0 r1), bi 0, bu] [] ι1 Q) (bq Q))
    else
      bW sc 56 42 [br 6 0, bi x1, bi (min 200 (ι 6 0 11 - x1)), bi 3, bi 0, bi (-1), bi 0, bu] [] ι Q)) :
  bC sc 56 [br 6 0, bi x1] ι Q := bm_snd 56 [42] 24 h
set_option maxRecDepth 100000 in
theorem e_F_findCopy_42 {sc : bm_Sc} {Q : bm_O → bm_S → Prop} {x1 : Int} {x2 : Int} {x3 : Int} {x4 : Int} {x5 : Int} {x6 : Int} {v7 : bm_V} {ι : bm_S}
  (h : (if (2000 : Int) ≤ x6 then
      (if x4 ≤ (0 : Int) then
        (0 ≤ x1 ∧ x1 < (2000 : Int)) ∧
        (0 ≤ x1 ∧ x1 < (2000 : Int)) ∧
        Q (.inl none) (up (up ι 35 0 x1 0) 36 0 x1 x4)
      else
        (0 ≤ x1 ∧ x1 < (2000 : Int)) ∧
        (0 ≤ x1 ∧ x1 < (2000 : Int)) ∧
        Q (.inl none) (up (up ι 35 0 x1 x3) 36 0 x1 x4))
    else
      (if x5 < (0 : Int) then
        (if x4 ≤ (0 : Int) then
          (0 ≤ x1 ∧ x1 < (2000 : Int)) ∧
          (0 ≤ x1 ∧ x1 < (2000 : Int)) ∧
          Q (.inl none) (up (up ι 35 0 x1 0) 36 0 x1 x4)
        else
          (0 ≤ x1 ∧ x1 < (2000 : Int)) ∧
          (0 ≤ x1 ∧ x1 < (2000 : Int)) ∧
          Q (.inl none) (up (up ι 35 0 x1 x3) 36 0 x1 x4))
      else
        (if x2 ≤ x3 then
          (if x4 ≤ (0 : Int) then
            (0 ≤ x1 ∧ x1 < (2000 : Int)) ∧
            (0 ≤ x1 ∧ x1 < (2000 : Int)) ∧
            Q (.inl none) (up (up ι 35 0 x1 0) 36 0 x1 x4)
          else
            (0 ≤ x1 ∧ x1 < (2000 : Int)) ∧
            (0 ≤ x1 ∧ x1 < (2000 : Int)) ∧
            Q (.inl none) (up (up ι 35 0 x1 x3) 36 0 x1 x4))
        else
          (bm_rg (x5 + x3)) ∧
          (0 ≤ x5 + x3 ∧ x5 + x3 < (2400 : Int)) ∧
          (bm_rg (x1 + x3)) ∧
          (0 ≤ x1 + x3 ∧ x1 + x3 < (2400 : Int)) ∧
          (if ι 20 0 (x5 + x3) = ι 20 0 (x1 + x3) then
            bC sc 57 [br 6 0, bi x5, bi x1, bi x2] ι (bk1 (fun r1 ι1 => 
              (if r1 ≤ x3 then
                (0 ≤ x5 ∧ x5 < (2000 : Int)) ∧
                (bm_rg (x6 + 1)) ∧
                bW sc 56 42 [br 6 0, bi x1, bi x2, bi x3, bi x4, bi (ι1 40 0 x5), bi (x6 + 1), bi r1] [] ι1 Q
              else
                (bm_rg (x1 - x5)) ∧
                (0 ≤ x5 ∧ x5 < (2000 : Int)) ∧
                (bm_rg (x6 + 1)) ∧
                bW sc 56 42 [br 6 0, bi x1, bi x2, bi r1, bi (x1 - x5), bi (ι1 40 0 x5), bi (x6 + 1), bi r1] [] ι1 Q)) (bq Q))
          else
            (0 ≤ x5 ∧ x5 < (2000 : Int)) ∧
            (bm_rg (x6 + 1)) ∧
            bW sc 56 42 [br 6 0, bi x1, bi x2, bi x3, bi x4, bi (ι 40 0 x5), bi (x6 + 1), v7] [] ι Q))))) :
  bW sc 56 42 [br 6 0, bi x1, bi x2, bi x3, bi x4, bi x5, bi x6, v7] [] ι Q := bm_snd 56 [42] 46 h
-- F_sameBytes
set_option maxRecDepth 100000 in
theorem e_F_sameBytes_0 {sc : bm_Sc} {Q : bm_O → bm_S → Prop} {x1 : Int} {x2 : Int} {x3 : Int} {ι : bm_S}
  (h : bW sc 57 6 [br 6 0, bi x1, bi x2, bi x3, bi 0, bi 0] [] ι Q) :
  bC sc 57 [br 6 0, bi x1, bi x2, bi x3] ι Q := bm_snd 57 [6] 5 h
set_option maxRecDepth 100000 in
theorem e_F_sameBytes_6 {sc : bm_Sc} {Q : bm_O → bm_S → Prop} {x1 : Int} {x2 : Int} {x3 : Int} {x4 : Int} {x5 : Int} {ι : bm_S}
  (h : (if x3 ≤ x5 then
      Q (.inl (some (bi x4))) ι
    else
      (bm_rg (x1 + x5)) ∧
      (0 ≤ x1 + x5 ∧ x1 + x5 < (2400 : Int)) ∧
      (bm_rg (x2 + x5)) ∧
      (0 ≤ x2 + x5 ∧ x2 + x5 < (2400 : Int)) ∧
      (if ι 20 0 (x1 + x5) = ι 20 0 (x2 + x5) then
        (bm_rg (x4 + 1)) ∧
        (bm_rg (x5 + 1)) ∧
        bW sc 57 6 [br 6 0, bi x1, bi x2, bi x3, bi (x4 + 1), bi (x5 + 1)] [] ι Q
      else
        Q (.inl (some (bi x4))) ι))) :
  bW sc 57 6 [br 6 0, bi x1, bi x2, bi x3, bi x4, bi x5] [] ι Q := bm_snd 57 [6] 22 h
-- F_findWord
set_option maxRecDepth 100000 in
theorem e_F_findWord_0 {sc : bm_Sc} {Q : bm_O → bm_S → Prop} {x1 : Int} {x2 : Int} {x3 : Int} {ι : bm_S}
  (h : (bm_rg (x2 + 1)) ∧
    (if x2 + 1 < ι 6 0 11 then
      bC sc 15 [br 2 0, bi x2] ι (bk1 (fun r1 ι1 => 
        (bm_rg (x2 + 1)) ∧
        bC sc 15 [br 2 0, bi (x2 + 1)] ι1 (bk1 (fun r2 ι2 => 
          bC sc 54 [bi r1, bi r2] ι2 (bk1 (fun r3 ι3 => 
            (0 ≤ r3 ∧ r3 < (256 : Int)) ∧
            bW sc 58 42 [br 6 0, bi x1, bi x2, bi x3, bi (ι3 41 0 r3), bi 0, bu, bu, bu] [] ι3 Q) (bq Q))) (bq Q))) (bq Q))
    else
      Q (.inl none) ι)) :
  bC sc 58 [br 6 0, bi x1, bi x2, bi x3] ι Q := bm_snd 58 [42] 24 h
set_option maxRecDepth 100000 in
theorem e_F_findWord_42 {sc : bm_Sc} {Q : bm_O → bm_S → Prop} {x1 : Int} {x2 : Int} {x3 : Int} {x4 : Int} {x5 : Int} {v6 : bm_V} {v7 : bm_V} {v8 : bm_V} {ι : bm_S}
  (h : (if (1344 : Int) ≤ x5 then
      Q (.inl none) ι
    else
      (if x4 < (0 : Int) then
        Q (.inl none) ι
      else
        (0 ≤ x4 ∧ 0 < (6 : Int)) ∧
        (0 ≤ x4 ∧ 0 < (6 : Int)) ∧
        (0 ≤ x4 / 6 ∧ 0 < (32 : Int)) ∧
        (bm_rg (4 + x4 / 6 / 32)) ∧
        bC sc 115 [bi (4 + x4 / 6 / 32), bi (x4 % 6)] ι (bk1 (fun r1 ι1 => 
          (bm_rg (x2 + r1)) ∧
          (if ι1 6 0 11 < x2 + r1 then
            (0 ≤ x4 ∧ x4 < (1344 : Int)) ∧
            (bm_rg (x5 + 1)) ∧
            bW sc 58 42 [br 6 0, bi x1, bi x2, bi x3, bi (ι1 42 0 x4), bi (x5 + 1), bi (x4 % 6), bi (4 + x4 / 6 / 32), bi (x2 + r1)] [] ι1 Q
          else
            bC sc 59 [br 6 0, bi x4, bi x2, bi (x2 + r1)] ι1 (bk1 (fun r2 ι2 => 
              (if r2 = (0 : Int) then
                (0 ≤ x4 ∧ x4 < (1344 : Int)) ∧
                (bm_rg (x5 + 1)) ∧
                bW sc 58 42 [br 6 0, bi x1, bi x2, bi x3, bi (ι2 42 0 x4), bi (x5 + 1), bi (x4 % 6), bi (4 + x4 / 6 / 32), bi (x2 + r1)] [] ι2 Q
              else
                (if x3 = (0 : Int) then
                  bC sc 60 [br 6 0, bi x1, bi (x2 + r1), bi x4] ι2 (bk0 (fun ι3 => 
                    (0 ≤ x4 ∧ x4 < (1344 : Int)) ∧
                    (bm_rg (x5 + 1)) ∧
                    bW sc 58 42 [br 6 0, bi x1, bi x2, bi x3, bi (ι3 42 0 x4), bi (x5 + 1), bi (x4 % 6), bi (4 + x4 / 6 / 32), bi (x2 + r1)] [] ι3 Q) (bq Q))
                else
                  bC sc 61 [br 6 0, bi x1, bi (x2 + r1), bi x4, bi 2] ι2 (bk0 (fun ι4 => 
                    (0 ≤ x4 ∧ x4 < (1344 : Int)) ∧
                    (bm_rg (x5 + 1)) ∧
                    bW sc 58 42 [br 6 0, bi x1, bi x2, bi x3, bi (ι4 42 0 x4), bi (x5 + 1), bi (x4 % 6), bi (4 + x4 / 6 / 32), bi (x2 + r1)] [] ι4 Q) (bq Q))))) (bq Q)))) (bq Q))))) :
  bW sc 58 42 [br 6 0, bi x1, bi x2, bi x3, bi x4, bi x5, v6, v7, v8] [] ι Q := bm_snd 58 [42] 52 h
-- F_isCore
set_option maxRecDepth 100000 in
theorem e_F_isCore_0 {sc : bm_Sc} {Q : bm_O → bm_S → Prop} {x1 : Int} {x2 : Int} {x3 : Int} {ι : bm_S}
  (h : (0 ≤ x1 ∧ 0 < (6 : Int)) ∧
    (0 ≤ x1 / 6 ∧ 0 < (32 : Int)) ∧
    (bm_rg (4 + x1 / 6 / 32)) ∧
    (0 ≤ x1 ∧ 0 < (6 : Int)) ∧
    (0 ≤ x1 / 6 ∧ 0 < (32 : Int)) ∧
    bW sc 59 23 [br 6 0, bi x1, bi x2, bi x3, bi (4 + x1 / 6 / 32), bi (x1 / 6 % 32), bi x2] [] ι Q) :
  bC sc 59 [br 6 0, bi x1, bi x2, bi x3] ι Q := bm_snd 59 [23] 17 h
set_option maxRecDepth 100000 in
theorem e_F_isCore_23 {sc : bm_Sc} {Q : bm_O → bm_S → Prop} {x1 : Int} {x2 : Int} {x3 : Int} {x4 : Int} {x5 : Int} {x6 : Int} {ι : bm_S}
  (h : (if x3 ≤ x6 then
      ((1 : Int) = 0 ∨ (1 : Int) = 1) ∧
      Q (.inl (some (bi 1))) ι
    else
      (0 ≤ x1 ∧ 0 < (6 : Int)) ∧
      (bm_rg (x6 - x2)) ∧
      bC sc 116 [br 10 0, bi x4, bi x5, bi (x1 % 6), bi (x6 - x2)] ι (bk1 (fun r1 ι1 => 
        bC sc 15 [br 2 0, bi x6] ι1 (bk1 (fun r2 ι2 => 
          (if r1 = r2 then
            (bm_rg (x6 + 1)) ∧
            bW sc 59 23 [br 6 0, bi x1, bi x2, bi x3, bi x4, bi x5, bi (x6 + 1)] [] ι2 Q
          else
            ((0 : Int) = 0 ∨ (0 : Int) = 1) ∧
            Q (.inl (some (bi 0))) ι2)) (bq Q))) (bq Q)))) :
  bW sc 59 23 [br 6 0, bi x1, bi x2, bi x3, bi x4, bi x5, bi x6] [] ι Q := bm_snd 59 [23] 22 h
-- F_offerBehind
set_option maxRecDepth 100000 in
theorem e_F_offerBehind_0 {sc : bm_Sc} {Q : bm_O → bm_S → Prop} {x1 : Int} {x2 : Int} {x3 : Int} {ι : bm_S}
  (h : bC sc 61 [br 6 0, bi x1, bi x2, bi x3, bi 0] ι (bk0 (fun ι1 => 
      (if ι1 6 0 11 ≤ x2 then
        (bm_rg (x2 + 1)) ∧
        (if ι1 6 0 11 ≤ x2 + 1 then
          Q (.inl none) ι1
        else
          bC sc 15 [br 2 0, bi x2] ι1 (bk1 (fun r2 ι2 => 
            (if r2 = (44 : Int) then
              (bm_rg (x2 + 1)) ∧
              bC sc 15 [br 2 0, bi (x2 + 1)] ι2 (bk1 (fun r3 ι3 => 
                (if r3 = (32 : Int) then
                  (bm_rg (x2 + 2)) ∧
                  bC sc 61 [br 6 0, bi x1, bi (x2 + 2), bi x3, bi 3] ι3 (bk0 (fun ι4 => 
                    Q (.inl none) ι4) (bq Q))
                else
                  Q (.inl none) ι3)) (bq Q))
            else
              Q (.inl none) ι2)) (bq Q)))
      else
        bC sc 15 [br 2 0, bi x2] ι1 (bk1 (fun r5 ι5 => 
          (if r5 = (32 : Int) then
            (bm_rg (x2 + 1)) ∧
            bC sc 61 [br 6 0, bi x1, bi (x2 + 1), bi x3, bi 1] ι5 (bk0 (fun ι9 => 
              (bm_rg (x2 + 1)) ∧
              (if ι9 6 0 11 ≤ x2 + 1 then
                Q (.inl none) ι9
              else
                bC sc 15 [br 2 0, bi x2] ι9 (bk1 (fun r10 ι10 => 
                  (if r10 = (44 : Int) then
                    (bm_rg (x2 + 1)) ∧
                    bC sc 15 [br 2 0, bi (x2 + 1)] ι10 (bk1 (fun r11 ι11 => 
                      (if r11 = (32 : Int) then
                        (bm_rg (x2 + 2)) ∧
                        bC sc 61 [br 6 0, bi x1, bi (x2 + 2), bi x3, bi 3] ι11 (bk0 (fun ι12 => 
                          Q (.inl none) ι12) (bq Q))
                      else
                        Q (.inl none) ι11)) (bq Q))
                  else
                    Q (.inl none) ι10)) (bq Q)))) (bq Q))
          else
            (bm_rg (x2 + 1)) ∧
            (if ι5 6 0 11 ≤ x2 + 1 then
              Q (.inl none) ι5
            else
              bC sc 15 [br 2 0, bi x2] ι5 (bk1 (fun r6 ι6 => 
                (if r6 = (44 : Int) then
                  (bm_rg (x2 + 1)) ∧
                  bC sc 15 [br 2 0, bi (x2 + 1)] ι6 (bk1 (fun r7 ι7 => 
                    (if r7 = (32 : Int) then
                      (bm_rg (x2 + 2)) ∧
                      bC sc 61 [br 6 0, bi x1, bi (x2 + 2), bi x3, bi 3] ι7 (bk0 (fun ι8 => 
                        Q (.inl none) ι8) (bq Q))
                    else
                      Q (.inl none) ι7)) (bq Q))
                else
                  Q (.inl none) ι6)) (bq Q))))) (bq Q)))) (bq Q))) :
  bC sc 60 [br 6 0, bi x1, bi x2, bi x3] ι Q := bm_snd 60 [] 53 h
-- F_offer
set_option maxRecDepth 100000 in
theorem e_F_offer_0 {sc : bm_Sc} {Q : bm_O → bm_S → Prop} {x1 : Int} {x2 : Int} {x3 : Int} {x4 : Int} {ι : bm_S}
  (h : (bm_rg (x2 - x1)) ∧
    (0 ≤ x3 ∧ 0 < (6 : Int)) ∧
    (bm_rg (x3 / 6 * 24)) ∧
    (bm_rg (6 * x4)) ∧
    (bm_rg (x3 / 6 * 24 + 6 * x4)) ∧
    (0 ≤ x3 ∧ 0 < (6 : Int)) ∧
    (bm_rg (x3 / 6 * 24 + 6 * x4 + x3 % 6)) ∧
    (if x2 - x1 < (4 : Int) then
      Q (.inl none) ι
    else
      (0 ≤ x1 ∧ x1 < (2000 : Int)) ∧
      (if ι 37 0 x1 ≤ x2 - x1 then
        (0 ≤ x1 ∧ x1 < (2000 : Int)) ∧
        (if ι 37 0 x1 < x2 - x1 then
          (0 ≤ x1 ∧ x1 < (2000 : Int)) ∧
          (0 ≤ x1 ∧ x1 < (2000 : Int)) ∧
          Q (.inl none) (up (up ι 37 0 x1 (x2 - x1)) 38 0 x1 (x3 / 6 * 24 + 6 * x4 + x3 % 6))
        else
          (0 ≤ x1 ∧ x1 < (2000 : Int)) ∧
          (if ι 38 0 x1 ≤ x3 / 6 * 24 + 6 * x4 + x3 % 6 then
            Q (.inl none) ι
          else
            (0 ≤ x1 ∧ x1 < (2000 : Int)) ∧
            (0 ≤ x1 ∧ x1 < (2000 : Int)) ∧
            Q (.inl none) (up (up ι 37 0 x1 (x2 - x1)) 38 0 x1 (x3 / 6 * 24 + 6 * x4 + x3 % 6))))
      else
        Q (.inl none) ι))) :
  bC sc 61 [br 6 0, bi x1, bi x2, bi x3, bi x4] ι Q := bm_snd 61 [] 50 h
-- P_packAll
set_option maxRecDepth 100000 in
theorem e_P_packAll_0 {sc : bm_Sc} {Q : bm_O → bm_S → Prop} {x1 : Int} {ι : bm_S}
  (h : bC sc 16 [br 2 1, bi 0] (up ι 9 0 4 0) (bk0 (fun ι1 => 
      bC sc 114 [br 10 0] ι1 (bk1 (fun r2 ι2 => 
        bC sc 19 [br 2 1, bi r2, bi 16] ι2 (bk0 (fun ι3 => 
          bC sc 19 [br 2 1, bi 0, bi 1] ι3 (bk0 (fun ι4 => 
            (if min (ι 2 0 1) 2000 ≤ (0 : Int) then
              bC sc 95 [br 9 0, bi (min (ι 2 0 1) 2000)] ι4 (bk0 (fun ι5 => 
                bC sc 19 [br 2 1, bi 3, bi 2] ι5 (bk0 (fun ι6 => 
                  bC sc 20 [br 2 1] ι6 (bk0 (fun ι7 => 
                    Q (.inl none) ι7) (bq Q))) (bq Q))) (bq Q))
            else
              (if x1 ≤ (0 : Int) then
                bC sc 95 [br 9 0, bi (min (ι 2 0 1) 2000)] ι4 (bk0 (fun ι8 => 
                  bC sc 19 [br 2 1, bi 3, bi 2] ι8 (bk0 (fun ι9 => 
                    bC sc 20 [br 2 1] ι9 (bk0 (fun ι10 => 
                      Q (.inl none) ι10) (bq Q))) (bq Q))) (bq Q))
              else
                bC sc 96 [br 9 0, bi x1, bi (min (ι 2 0 1) 2000)] ι4 (bk0 (fun ι11 => 
                  bC sc 100 [br 9 0, bi (min (ι 2 0 1) 2000)] ι11 (bk0 (fun ι12 => 
                    bC sc 106 [br 9 0, bi (min (ι 2 0 1) 2000)] ι12 (bk0 (fun ι13 => 
                      bC sc 107 [br 9 0] ι13 (bk0 (fun ι14 => 
                        bC sc 20 [br 2 1] ι14 (bk0 (fun ι15 => 
                          Q (.inl none) ι15) (bq Q))) (bq Q))) (bq Q))) (bq Q))) (bq Q))))) (bq Q))) (bq Q))) (bq Q))) (bq Q))) :
  bC sc 94 [br 9 0, bi x1] ι Q := bm_snd 94 [] 46 h
-- P_writeRaw
set_option maxRecDepth 100000 in
theorem e_P_writeRaw_0 {sc : bm_Sc} {Q : bm_O → bm_S → Prop} {x1 : Int} {ι : bm_S}
  (h : (if x1 = (0 : Int) then
      Q (.inl none) ι
    else
      bC sc 19 [br 2 1, bi 0, bi 3] ι (bk0 (fun ι1 => 
        (bm_rg (x1 - 1)) ∧
        bC sc 19 [br 2 1, bi (x1 - 1), bi 16] ι1 (bk0 (fun ι2 => 
          bC sc 19 [br 2 1, bi 1, bi 1] ι2 (bk0 (fun ι3 => 
            bW sc 95 37 [br 9 0, bi x1, bi 0] [] ι3 Q) (bq Q))) (bq Q))) (bq Q)))) :
  bC sc 95 [br 9 0, bi x1] ι Q := bm_snd 95 [37] 22 h
set_option maxRecDepth 100000 in
theorem e_P_writeRaw_37 {sc : bm_Sc} {Q : bm_O → bm_S → Prop} {x1 : Int} {x2 : Int} {ι : bm_S}
  (h : (if x1 ≤ x2 then
      Q (.inl none) ι
    else
      bC sc 15 [br 2 0, bi x2] ι (bk1 (fun r1 ι1 => 
        bC sc 17 [br 2 1, bi r1] ι1 (bk0 (fun ι2 => 
          (bm_rg (x2 + 1)) ∧
          bW sc 95 37 [br 9 0, bi x1, bi (x2 + 1)] [] ι2 Q) (bq Q))) (bq Q)))) :
  bW sc 95 37 [br 9 0, bi x1, bi x2] [] ι Q := bm_snd 95 [37] 13 h
-- P_choose
set_option maxRecDepth 100000 in
theorem e_P_choose_0 {sc : bm_Sc} {Q : bm_O → bm_S → Prop} {x1 : Int} {x2 : Int} {ι : bm_S}
  (h : bC sc 52 [br 6 0] ι (bk0 (fun ι1 => 
      (if x1 = (1 : Int) then
        bW sc 96 14 [br 9 0, bi x1, bi x2, bi 0] [] ι1 Q
      else
        bW sc 96 56 [br 9 0, bi x1, bi x2, bi 0] [] ι1 Q)) (bq Q))) :
  bC sc 96 [br 9 0, bi x1, bi x2] ι Q := bm_snd 96 [14, 56, 86] 9 h
set_option maxRecDepth 100000 in
theorem e_P_choose_14 {sc : bm_Sc} {Q : bm_O → bm_S → Prop} {v1 : bm_V} {x2 : Int} {x3 : Int} {ι : bm_S}
  (h : (if x2 ≤ x3 then
      Q (.inl none) ι
    else
      bC sc 53 [br 6 0, bi x3] ι (bk0 (fun ι1 => 
        bC sc 97 [br 9 0, bi x3] ι1 (bk1 (fun r2 ι2 => 
          (0 ≤ x3 ∧ x3 < (2000 : Int)) ∧
          bC sc 99 [br 9 0, bi x3] (up ι2 61 0 x3 r2) (bk1 (fun r3 ι3 => 
            (bm_rg (x3 + max r3 1)) ∧
            bW sc 96 14 [br 9 0, v1, bi x2, bi (x3 + max r3 1)] [] ι3 Q) (bq Q))) (bq Q))) (bq Q)))) :
  bW sc 96 14 [br 9 0, v1, bi x2, bi x3] [] ι Q := bm_snd 96 [14, 56, 86] 24 h
set_option maxRecDepth 100000 in
theorem e_P_choose_56 {sc : bm_Sc} {Q : bm_O → bm_S → Prop} {v1 : bm_V} {x2 : Int} {x3 : Int} {ι : bm_S}
  (h : (if x2 ≤ x3 then
      (0 ≤ x2 ∧ x2 < (2001 : Int)) ∧
      (bm_rg (x2 - 1)) ∧
      bW sc 96 86 [br 9 0, v1, bi x2, bi (x2 - 1)] [] (up ι 62 0 x2 0) Q
    else
      bC sc 53 [br 6 0, bi x3] ι (bk0 (fun ι1 => 
        (bm_rg (x3 + 1)) ∧
        bW sc 96 56 [br 9 0, v1, bi x2, bi (x3 + 1)] [] ι1 Q) (bq Q)))) :
  bW sc 96 56 [br 9 0, v1, bi x2, bi x3] [] ι Q := bm_snd 96 [14, 56, 86] 13 h
set_option maxRecDepth 100000 in
theorem e_P_choose_86 {sc : bm_Sc} {Q : bm_O → bm_S → Prop} {v1 : bm_V} {v2 : bm_V} {x3 : Int} {ι : bm_S}
  (h : (if x3 < (0 : Int) then
      Q (.inl none) ι
    else
      bC sc 98 [br 9 0, bi x3] ι (bk0 (fun ι1 => 
        (bm_rg (x3 + (-1))) ∧
        bW sc 96 86 [br 9 0, v1, v2, bi (x3 + (-1))] [] ι1 Q) (bq Q)))) :
  bW sc 96 86 [br 9 0, v1, v2, bi x3] [] ι Q := bm_snd 96 [14, 56, 86] 8 h
-- P_longest
set_option maxRecDepth 100000 in
theorem e_P_longest_0 {sc : bm_Sc} {Q : bm_O → bm_S → Prop} {x1 : Int} {ι : bm_S}
  (h : (0 ≤ x1 ∧ x1 < (2000 : Int)) ∧
    (0 ≤ x1 ∧ x1 < (2000 : Int)) ∧
    (if ι 35 0 x1 = (0 : Int) then
      (if ι 37 0 x1 = (0 : Int) then
        Q (.inl (some (bi 0))) ι
      else
        (if ι 35 0 x1 < ι 37 0 x1 then
          Q (.inl (some (bi 2))) ι
        else
          Q (.inl (some (bi 1))) ι))
    else
      (if ι 35 0 x1 < ι 37 0 x1 then
        Q (.inl (some (bi 2))) ι
      else
        Q (.inl (some (bi 1))) ι))) :
  bC sc 97 [br 9 0, bi x1] ι Q := bm_snd 97 [] 22 h
-- P_takeCheapest
set_option maxRecDepth 100000 in
theorem e_P_takeCheapest_0 {sc : bm_Sc} {Q : bm_O → bm_S → Prop} {x1 : Int} {ι : bm_S}
  (h : (0 ≤ x1 ∧ x1 < (2000 : Int)) ∧
    (0 ≤ x1 ∧ x1 < (2000 : Int)) ∧
    (0 ≤ x1 ∧ x1 < (2000 : Int)) ∧
    (bm_rg (x1 + 1)) ∧
    (0 ≤ x1 + 1 ∧ x1 + 1 < (2001 : Int)) ∧
    (bm_rg (9 + ι 62 0 (x1 + 1))) ∧
    (0 ≤ x1 ∧ x1 < (2001 : Int)) ∧
    (if ι 37 0 x1 ≤ (0 : Int) then
      (if ι 35 0 x1 ≤ (0 : Int) then
        Q (.inl none) (up (up ι 61 0 x1 0) 62 0 x1 (9 + ι 62 0 (x1 + 1)))
      else
        (bm_rg (x1 + ι 35 0 x1)) ∧
        (0 ≤ x1 + ι 35 0 x1 ∧ x1 + ι 35 0 x1 < (2001 : Int)) ∧
        (bm_rg (24 + (up (up ι 61 0 x1 0) 62 0 x1 (9 + ι 62 0 (x1 + 1))) 62 0 (x1 + ι 35 0 x1))) ∧
        (0 ≤ x1 ∧ x1 < (2001 : Int)) ∧
        (if (up (up ι 61 0 x1 0) 62 0 x1 (9 + ι 62 0 (x1 + 1))) 62 0 x1 < 24 + (up (up ι 61 0 x1 0) 62 0 x1 (9 + ι 62 0 (x1 + 1))) 62 0 (x1 + ι 35 0 x1) then
          Q (.inl none) (up (up ι 61 0 x1 0) 62 0 x1 (9 + ι 62 0 (x1 + 1)))
        else
          (0 ≤ x1 ∧ x1 < (2000 : Int)) ∧
          (bm_rg (x1 + ι 35 0 x1)) ∧
          (0 ≤ x1 + ι 35 0 x1 ∧ x1 + ι 35 0 x1 < (2001 : Int)) ∧
          (bm_rg (24 + (up (up ι 61 0 x1 0) 62 0 x1 (9 + ι 62 0 (x1 + 1))) 62 0 (x1 + ι 35 0 x1))) ∧
          (0 ≤ x1 ∧ x1 < (2001 : Int)) ∧
          Q (.inl none) (up (up (up (up ι 61 0 x1 0) 62 0 x1 (9 + ι 62 0 (x1 + 1))) 61 0 x1 1) 62 0 x1 (24 + (up (up ι 61 0 x1 0) 62 0 x1 (9 + ι 62 0 (x1 + 1))) 62 0 (x1 + ι 35 0 x1)))))
    else
      (bm_rg (x1 + ι 37 0 x1)) ∧
      (0 ≤ x1 + ι 37 0 x1 ∧ x1 + ι 37 0 x1 < (2001 : Int)) ∧
      (bm_rg (24 + (up (up ι 61 0 x1 0) 62 0 x1 (9 + ι 62 0 (x1 + 1))) 62 0 (x1 + ι 37 0 x1))) ∧
      (0 ≤ x1 ∧ x1 < (2001 : Int)) ∧
      (if (up (up ι 61 0 x1 0) 62 0 x1 (9 + ι 62 0 (x1 + 1))) 62 0 x1 < 24 + (up (up ι 61 0 x1 0) 62 0 x1 (9 + ι 62 0 (x1 + 1))) 62 0 (x1 + ι 37 0 x1) then
        (if ι 35 0 x1 ≤ (0 : Int) then
          Q (.inl none) (up (up ι 61 0 x1 0) 62 0 x1 (9 + ι 62 0 (x1 + 1)))
        else
          (bm_rg (x1 + ι 35 0 x1)) ∧
          (0 ≤ x1 + ι 35 0 x1 ∧ x1 + ι 35 0 x1 < (2001 : Int)) ∧
          (bm_rg (24 + (up (up ι 61 0 x1 0) 62 0 x1 (9 + ι 62 0 (x1 + 1))) 62 0 (x1 + ι 35 0 x1))) ∧
          (0 ≤ x1 ∧ x1 < (2001 : Int)) ∧
          (if (up (up ι 61 0 x1 0) 62 0 x1 (9 + ι 62 0 (x1 + 1))) 62 0 x1 < 24 + (up (up ι 61 0 x1 0) 62 0 x1 (9 + ι 62 0 (x1 + 1))) 62 0 (x1 + ι 35 0 x1) then
            Q (.inl none) (up (up ι 61 0 x1 0) 62 0 x1 (9 + ι 62 0 (x1 + 1)))
          else
            (0 ≤ x1 ∧ x1 < (2000 : Int)) ∧
            (bm_rg (x1 + ι 35 0 x1)) ∧
            (0 ≤ x1 + ι 35 0 x1 ∧ x1 + ι 35 0 x1 < (2001 : Int)) ∧
            (bm_rg (24 + (up (up ι 61 0 x1 0) 62 0 x1 (9 + ι 62 0 (x1 + 1))) 62 0 (x1 + ι 35 0 x1))) ∧
            (0 ≤ x1 ∧ x1 < (2001 : Int)) ∧
            Q (.inl none) (up (up (up (up ι 61 0 x1 0) 62 0 x1 (9 + ι 62 0 (x1 + 1))) 61 0 x1 1) 62 0 x1 (24 + (up (up ι 61 0 x1 0) 62 0 x1 (9 + ι 62 0 (x1 + 1))) 62 0 (x1 + ι 35 0 x1)))))
      else
        (0 ≤ x1 ∧ x1 < (2000 : Int)) ∧
        (bm_rg (x1 + ι 37 0 x1)) ∧
        (0 ≤ x1 + ι 37 0 x1 ∧ x1 + ι 37 0 x1 < (2001 : Int)) ∧
        (bm_rg (24 + (up (up ι 61 0 x1 0) 62 0 x1 (9 + ι 62 0 (x1 + 1))) 62 0 (x1 + ι 37 0 x1))) ∧
        (0 ≤ x1 ∧ x1 < (2001 : Int)) ∧
        (if ι 35 0 x1 ≤ (0 : Int) then
          Q (.inl none) (up (up (up (up ι 61 0 x1 0) 62 0 x1 (9 + ι 62 0 (x1 + 1))) 61 0 x1 2) 62 0 x1 (24 + (up (up ι 61 0 x1 0) 62 0 x1 (9 + ι 62 0 (x1 + 1))) 62 0 (x1 + ι 37 0 x1)))
        else
          (bm_rg (x1 + ι 35 0 x1)) ∧
          (0 ≤ x1 + ι 35 0 x1 ∧ x1 + ι 35 0 x1 < (2001 : Int)) ∧
          (bm_rg (24 + (up (up (up (up ι 61 0 x1 0) 62 0 x1 (9 + ι 62 0 (x1 + 1))) 61 0 x1 2) 62 0 x1 (24 + (up (up ι 61 0 x1 0) 62 0 x1 (9 + ι 62 0 (x1 + 1))) 62 0 (x1 + ι 37 0 x1))) 62 0 (x1 + ι 35 0 x1))) ∧
          (0 ≤ x1 ∧ x1 < (2001 : Int)) ∧
          (if (up (up (up (up ι 61 0 x1 0) 62 0 x1 (9 + ι 62 0 (x1 + 1))) 61 0 x1 2) 62 0 x1 (24 + (up (up ι 61 0 x1 0) 62 0 x1 (9 + ι 62 0 (x1 + 1))) 62 0 (x1 + ι 37 0 x1))) 62 0 x1 < 24 + (up (up (up (up ι 61 0 x1 0) 62 0 x1 (9 + ι 62 0 (x1 + 1))) 61 0 x1 2) 62 0 x1 (24 + (up (up ι 61 0 x1 0) 62 0 x1 (9 + ι 62 0 (x1 + 1))) 62 0 (x1 + ι 37 0 x1))) 62 0 (x1 + ι 35 0 x1) then
            Q (.inl none) (up (up (up (up ι 61 0 x1 0) 62 0 x1 (9 + ι 62 0 (x1 + 1))) 61 0 x1 2) 62 0 x1 (24 + (up (up ι 61 0 x1 0) 62 0 x1 (9 + ι 62 0 (x1 + 1))) 62 0 (x1 + ι 37 0 x1)))
          else
            (0 ≤ x1 ∧ x1 < (2000 : Int)) ∧
            (bm_rg (x1 + ι 35 0 x1)) ∧
            (0 ≤ x1 + ι 35 0 x1 ∧ x1 + ι 35 0 x1 < (2001 : Int)) ∧
            (bm_rg (24 + (up (up (up (up ι 61 0 x1 0) 62 0 x1 (9 + ι 62 0 (x1 + 1))) 61 0 x1 2) 62 0 x1 (24 + (up (up ι 61 0 x1 0) 62 0 x1 (9 + ι 62 0 (x1 + 1))) 62 0 (x1 + ι 37 0 x1))) 62 0 (x1 + ι 35 0 x1))) ∧
            (0 ≤ x1 ∧ x1 < (2001 : Int)) ∧
            Q (.inl none) (up (up (up (up (up (up ι 61 0 x1 0) 62 0 x1 (9 + ι 62 0 (x1 + 1))) 61 0 x1 2) 62 0 x1 (24 + (up (up ι 61 0 x1 0) 62 0 x1 (9 + ι 62 0 (x1 + 1))) 62 0 (x1 + ι 37 0 x1))) 61 0 x1 1) 62 0 x1 (24 + (up (up (up (up ι 61 0 x1 0) 62 0 x1 (9 + ι 62 0 (x1 + 1))) 61 0 x1 2) 62 0 x1 (24 + (up (up ι 61 0 x1 0) 62 0 x1 (9 + ι 62 0 (x1 + 1))) 62 0 (x1 + ι 37 0 x1))) 62 0 (x1 + ι 35 0 x1)))))))) :
  bC sc 98 [br 9 0, bi x1] ι Q := bm_snd 98 [] 94 h
-- P_makesAt
set_option maxRecDepth 100000 in
theorem e_P_makesAt_0 {sc : bm_Sc} {Q : bm_O → bm_S → Prop} {x1 : Int} {ι : bm_S}
  (h : (0 ≤ x1 ∧ x1 < (2000 : Int)) ∧
    (if ι 61 0 x1 = (0 : Int) then
      Q (.inl (some (bi 1))) ι
    else
      (0 ≤ x1 ∧ x1 < (2000 : Int)) ∧
      (if ι 61 0 x1 = (1 : Int) then
        (0 ≤ x1 ∧ x1 < (2000 : Int)) ∧
        Q (.inl (some (bi (ι 35 0 x1)))) ι
      else
        (0 ≤ x1 ∧ x1 < (2000 : Int)) ∧
        Q (.inl (some (bi (ι 37 0 x1)))) ι))) :
  bC sc 99 [br 9 0, bi x1] ι Q := bm_snd 99 [] 18 h
-- P_listCommands
set_option maxRecDepth 100000 in
theorem e_P_listCommands_0 {sc : bm_Sc} {Q : bm_O → bm_S → Prop} {x1 : Int} {ι : bm_S}
  (h : bC sc 142 [br 63 0] ι (bk0 (fun ι1 => 
      bW sc 100 11 [br 9 0, bi x1, bi 0, bi 0] [] ι1 Q) (bq Q))) :
  bC sc 100 [br 9 0, bi x1] ι Q := bm_snd 100 [11] 8 h
set_option maxRecDepth 100000 in
theorem e_P_listCommands_11 {sc : bm_Sc} {Q : bm_O → bm_S → Prop} {x1 : Int} {x2 : Int} {x3 : Int} {ι : bm_S}
  (h : (if x1 ≤ x3 then
      (if x2 ≤ (0 : Int) then
        Q (.inl none) ι
      else
        (if (501 : Int) ≤ ι 9 0 4 then
          Q (.inl none) ι
        else
          (0 ≤ ι 9 0 4 ∧ ι 9 0 4 < (501 : Int)) ∧
          (0 ≤ ι 9 0 4 ∧ ι 9 0 4 < (501 : Int)) ∧
          (0 ≤ ι 9 0 4 ∧ ι 9 0 4 < (501 : Int)) ∧
          bC sc 104 [br 200 0, bi x2] (up (up (up ι 55 0 (ι 9 0 4) x2) 56 0 (ι 9 0 4) 0) 57 0 (ι 9 0 4) 0) (bk1 (fun r1 ι1 => 
            bC sc 105 [bi r1, bi 0, bi (-1)] ι1 (bk1 (fun r2 ι2 => 
              (0 ≤ ι 9 0 4 ∧ ι 9 0 4 < (501 : Int)) ∧
              (0 ≤ ι2 9 0 4 ∧ ι2 9 0 4 < (501 : Int)) ∧
              (0 ≤ ι2 9 0 4 ∧ ι2 9 0 4 < (501 : Int)) ∧
              (bm_rg (ι2 9 0 4 + 1)) ∧
              Q (.inl none) (up (up (up (up ι2 58 0 (ι 9 0 4) r2) 59 0 (ι2 9 0 4) (-1)) 60 0 (ι2 9 0 4) 0) 9 0 4 (ι2 9 0 4 + 1))) (bq Q))) (bq Q))))
    else
      (0 ≤ x3 ∧ x3 < (2000 : Int)) ∧
      (if ι 61 0 x3 = (0 : Int) then
        (bm_rg (x2 + 1)) ∧
        bC sc 99 [br 9 0, bi x3] ι (bk1 (fun r7 ι7 => 
          (bm_rg (x3 + max r7 1)) ∧
          bW sc 100 11 [br 9 0, bi x1, bi (x2 + 1), bi (x3 + max r7 1)] [] ι7 Q) (bq Q))
      else
        (0 ≤ x3 ∧ x3 < (2000 : Int)) ∧
        (if ι 61 0 x3 = (1 : Int) then
          (0 ≤ x3 ∧ x3 < (2000 : Int)) ∧
          (0 ≤ x3 ∧ x3 < (2000 : Int)) ∧
          bC sc 102 [br 9 0, bi x2, bi (ι 35 0 x3), bi (ι 36 0 x3), bi x3] ι (bk0 (fun ι5 => 
            bC sc 99 [br 9 0, bi x3] ι5 (bk1 (fun r6 ι6 => 
              (bm_rg (x3 + max r6 1)) ∧
              bW sc 100 11 [br 9 0, bi x1, bi 0, bi (x3 + max r6 1)] [] ι6 Q) (bq Q))) (bq Q))
        else
          bC sc 101 [br 9 0, bi x2, bi x3] ι (bk0 (fun ι3 => 
            bC sc 99 [br 9 0, bi x3] ι3 (bk1 (fun r4 ι4 => 
              (bm_rg (x3 + max r4 1)) ∧
              bW sc 100 11 [br 9 0, bi x1, bi 0, bi (x3 + max r4 1)] [] ι4 Q) (bq Q))) (bq Q)))))) :
  bW sc 100 11 [br 9 0, bi x1, bi x2, bi x3] [] ι Q := bm_snd 100 [11] 57 h
-- P_addWord
set_option maxRecDepth 100000 in
theorem e_P_addWord_0 {sc : bm_Sc} {Q : bm_O → bm_S → Prop} {x1 : Int} {x2 : Int} {ι : bm_S}
  (h : (0 ≤ x2 ∧ x2 < (2000 : Int)) ∧
    (0 ≤ ι 38 0 x2 ∧ 0 < (24 : Int)) ∧
    (0 ≤ ι 38 0 x2 / 24 ∧ 0 < (32 : Int)) ∧
    (bm_rg (4 + ι 38 0 x2 / 24 / 32)) ∧
    (0 ≤ ι 38 0 x2 ∧ 0 < (24 : Int)) ∧
    (0 ≤ ι 38 0 x2 / 24 ∧ 0 < (32 : Int)) ∧
    (0 ≤ ι 38 0 x2 ∧ 0 < (24 : Int)) ∧
    bC sc 113 [br 10 0, bi (4 + ι 38 0 x2 / 24 / 32)] ι (bk1 (fun r1 ι1 => 
      ((0 ≤ r1 ∧ r1 < 32) ∧ bm_rg (ι 38 0 x2 % 24 * bm_p2 r1)) ∧
      (bm_rg (ι 38 0 x2 / 24 % 32 + ι 38 0 x2 % 24 * bm_p2 r1)) ∧
      (bm_rg (x2 + 1)) ∧
      (bm_rg (x2 + 1 + (ι 38 0 x2 / 24 % 32 + ι 38 0 x2 % 24 * bm_p2 r1))) ∧
      bC sc 102 [br 9 0, bi x1, bi (4 + ι 38 0 x2 / 24 / 32), bi (x2 + 1 + (ι 38 0 x2 / 24 % 32 + ι 38 0 x2 % 24 * bm_p2 r1)), bi x2] ι1 (bk0 (fun ι2 => 
        Q (.inl none) ι2) (bq Q))) (bq Q))) :
  bC sc 101 [br 9 0, bi x1, bi x2] ι Q := bm_snd 101 [] 42 h
-- P_addCommand
set_option maxRecDepth 100000 in
theorem e_P_addCommand_0 {sc : bm_Sc} {Q : bm_O → bm_S → Prop} {x1 : Int} {x2 : Int} {x3 : Int} {x4 : Int} {ι : bm_S}
  (h : (if ι 9 0 4 < (501 : Int) then
      bC sc 103 [br 9 0, bi x3] ι (bk1 (fun r1 ι1 => 
        (0 ≤ ι1 9 0 4 ∧ ι1 9 0 4 < (501 : Int)) ∧
        (0 ≤ ι1 9 0 4 ∧ ι1 9 0 4 < (501 : Int)) ∧
        (0 ≤ ι1 9 0 4 ∧ ι1 9 0 4 < (501 : Int)) ∧
        bC sc 104 [br 200 0, bi x1] (up (up (up ι1 55 0 (ι1 9 0 4) x1) 56 0 (ι1 9 0 4) x2) 57 0 (ι1 9 0 4) x3) (bk1 (fun r2 ι2 => 
          bC sc 104 [br 201 0, bi x2] ι2 (bk1 (fun r3 ι3 => 
            bC sc 105 [bi r2, bi r3, bi r1] ι3 (bk1 (fun r4 ι4 => 
              (0 ≤ ι1 9 0 4 ∧ ι1 9 0 4 < (501 : Int)) ∧
              (0 ≤ ι4 9 0 4 ∧ ι4 9 0 4 < (501 : Int)) ∧
              (if (128 : Int) ≤ (up ι4 58 0 (ι1 9 0 4) r4) 58 0 (ι4 9 0 4) then
                (0 ≤ ι4 9 0 4 ∧ ι4 9 0 4 < (501 : Int)) ∧
                bC sc 99 [br 9 0, bi x4] (up (up ι4 58 0 (ι1 9 0 4) r4) 59 0 (ι4 9 0 4) r1) (bk1 (fun r5 ι5 => 
                  (0 ≤ ι4 9 0 4 ∧ ι4 9 0 4 < (501 : Int)) ∧
                  (bm_rg (ι5 9 0 4 + 1)) ∧
                  (0 ≤ x4 ∧ x4 < (2000 : Int)) ∧
                  (if ι5 61 0 x4 = (1 : Int) then
                    (if r1 = (0 : Int) then
                      Q (.inl none) (up (up ι5 60 0 (ι4 9 0 4) r5) 9 0 4 (ι5 9 0 4 + 1))
                    else
                      bC sc 143 [br 63 0, bi x3] (up (up ι5 60 0 (ι4 9 0 4) r5) 9 0 4 (ι5 9 0 4 + 1)) (bk0 (fun ι6 => 
                        Q (.inl none) ι6) (bq Q)))
                  else
                    Q (.inl none) (up (up ι5 60 0 (ι4 9 0 4) r5) 9 0 4 (ι5 9 0 4 + 1)))) (bq Q))
              else
                (0 ≤ ι4 9 0 4 ∧ ι4 9 0 4 < (501 : Int)) ∧
                bC sc 99 [br 9 0, bi x4] (up (up ι4 58 0 (ι1 9 0 4) r4) 59 0 (ι4 9 0 4) (-1)) (bk1 (fun r7 ι7 => 
                  (0 ≤ ι4 9 0 4 ∧ ι4 9 0 4 < (501 : Int)) ∧
                  (bm_rg (ι7 9 0 4 + 1)) ∧
                  (0 ≤ x4 ∧ x4 < (2000 : Int)) ∧
                  (if ι7 61 0 x4 = (1 : Int) then
                    (if r1 = (0 : Int) then
                      Q (.inl none) (up (up ι7 60 0 (ι4 9 0 4) r7) 9 0 4 (ι7 9 0 4 + 1))
                    else
                      bC sc 143 [br 63 0, bi x3] (up (up ι7 60 0 (ι4 9 0 4) r7) 9 0 4 (ι7 9 0 4 + 1)) (bk0 (fun ι8 => 
                        Q (.inl none) ι8) (bq Q)))
                  else
                    Q (.inl none) (up (up ι7 60 0 (ι4 9 0 4) r7) 9 0 4 (ι7 9 0 4 + 1)))) (bq Q)))) (bq Q))) (bq Q))) (bq Q))) (bq Q))
    else
      Q (.inl none) ι)) :
  bC sc 102 [br 9 0, bi x1, bi x2, bi x3, bi x4] ι Q := bm_snd 102 [] 80 h
-- P_distanceSign
set_option maxRecDepth 100000 in
theorem e_P_distanceSign_0 {sc : bm_Sc} {Q : bm_O → bm_S → Prop} {x1 : Int} {ι : bm_S}
  (h : bW sc 103 2 [br 9 0, bi x1, bi 0] [] ι Q) :
  bC sc 103 [br 9 0, bi x1] ι Q := bm_snd 103 [2] 3 h
set_option maxRecDepth 100000 in
theorem e_P_distanceSign_2 {sc : bm_Sc} {Q : bm_O → bm_S → Prop} {x1 : Int} {x2 : Int} {ι : bm_S}
  (h : (if (4 : Int) ≤ x2 then
      (bm_rg (x1 + 3)) ∧
      bC sc 141 [bi (x1 + 3)] ι (bk1 (fun r1 ι1 => 
        (bm_rg (r1 - 2)) ∧
        (bm_rg (r1 - 2 - 1)) ∧
        (bm_rg (2 * (r1 - 2 - 1))) ∧
        (bm_rg (16 + 2 * (r1 - 2 - 1))) ∧
        (bm_rg (x1 + 3)) ∧
        (0 ≤ r1 - 2 ∧ r1 - 2 < 32) ∧
        (bm_rg (16 + 2 * (r1 - 2 - 1) + (x1 + 3) / bm_p2 (r1 - 2) % 2)) ∧
        Q (.inl (some (bi (16 + 2 * (r1 - 2 - 1) + (x1 + 3) / bm_p2 (r1 - 2) % 2)))) ι1) (bq Q))
    else
      (0 ≤ x2 ∧ x2 < (4 : Int)) ∧
      (if ι 63 0 x2 = x1 then
        Q (.inl (some (bi x2))) ι
      else
        (bm_rg (x2 + 1)) ∧
        bW sc 103 2 [br 9 0, bi x1, bi (x2 + 1)] [] ι Q))) :
  bW sc 103 2 [br 9 0, bi x1, bi x2] [] ι Q := bm_snd 103 [2] 26 h
-- P_codeOf
set_option maxRecDepth 100000 in
theorem e_P_codeOf_200_0 {sc : bm_Sc} {Q : bm_O → bm_S → Prop} {x1 : Int} {ι : bm_S}
  (h : bW sc 104 4 [br 200 0, bi x1, bi 0, bi 0] [] ι Q) :
  bC sc 104 [br 200 0, bi x1] ι Q := bm_snd 104 [4] 5 h
set_option maxRecDepth 100000 in
theorem e_P_codeOf_200_4 {sc : bm_Sc} {Q : bm_O → bm_S → Prop} {x1 : Int} {x2 : Int} {x3 : Int} {ι : bm_S}
  (h : (if (24 : Int) ≤ x3 then
      Q (.inl (some (bi x2))) ι
    else
      (0 ≤ x3 ∧ x3 < (24 : Int)) ∧
      (if x1 < bm_X sc 200 x3 then
        (bm_rg (x3 + 1)) ∧
        bW sc 104 4 [br 200 0, bi x1, bi x2, bi (x3 + 1)] [] ι Q
      else
        (bm_rg (x3 + 1)) ∧
        bW sc 104 4 [br 200 0, bi x1, bi x3, bi (x3 + 1)] [] ι Q))) :
  bW sc 104 4 [br 200 0, bi x1, bi x2, bi x3] [] ι Q := bm_snd 104 [4] 14 h
set_option maxRecDepth 100000 in
theorem e_P_codeOf_201_0 {sc : bm_Sc} {Q : bm_O → bm_S → Prop} {x1 : Int} {ι : bm_S}
  (h : bW sc 104 4 [br 201 0, bi x1, bi 0, bi 0] [] ι Q) :
  bC sc 104 [br 201 0, bi x1] ι Q := bm_snd 104 [4] 5 h
set_option maxRecDepth 100000 in
theorem e_P_codeOf_201_4 {sc : bm_Sc} {Q : bm_O → bm_S → Prop} {x1 : Int} {x2 : Int} {x3 : Int} {ι : bm_S}
  (h : (if (24 : Int) ≤ x3 then
      Q (.inl (some (bi x2))) ι
    else
      (0 ≤ x3 ∧ x3 < (24 : Int)) ∧
      (if x1 < bm_X sc 201 x3 then
        (bm_rg (x3 + 1)) ∧
        bW sc 104 4 [br 201 0, bi x1, bi x2, bi (x3 + 1)] [] ι Q
      else
        (bm_rg (x3 + 1)) ∧
        bW sc 104 4 [br 201 0, bi x1, bi x3, bi (x3 + 1)] [] ι Q))) :
  bW sc 104 4 [br 201 0, bi x1, bi x2, bi x3] [] ι Q := bm_snd 104 [4] 14 h
-- P_commandSign
set_option maxRecDepth 100000 in
theorem e_P_commandSign_0 {sc : bm_Sc} {Q : bm_O → bm_S → Prop} {x0 : Int} {x1 : Int} {x2 : Int} {ι : bm_S}
  (h : (0 ≤ x1 ∧ 0 < (8 : Int)) ∧
    (if x2 = (0 : Int) then
      (if (8 : Int) ≤ x0 then
        bW sc 105 24 [bi x0, bi x1, bi x2, bi (x1 / 8), bi 2] [] ι Q
      else
        (if x1 < (16 : Int) then
          (bm_rg (64 * (x1 / 8))) ∧
          (0 ≤ x0 ∧ 0 < (8 : Int)) ∧
          (bm_rg (8 * (x0 % 8))) ∧
          (bm_rg (64 * (x1 / 8) + 8 * (x0 % 8))) ∧
          (0 ≤ x1 ∧ 0 < (8 : Int)) ∧
          (bm_rg (64 * (x1 / 8) + 8 * (x0 % 8) + x1 % 8)) ∧
          Q (.inl (some (bi (64 * (x1 / 8) + 8 * (x0 % 8) + x1 % 8)))) ι
        else
          bW sc 105 24 [bi x0, bi x1, bi x2, bi (x1 / 8), bi 2] [] ι Q))
    else
      bW sc 105 24 [bi x0, bi x1, bi x2, bi (x1 / 8), bi 2] [] ι Q)) :
  bC sc 105 [bi x0, bi x1, bi x2] ι Q := bm_snd 105 [24] 26 h
set_option maxRecDepth 100000 in
theorem e_P_commandSign_24 {sc : bm_Sc} {Q : bm_O → bm_S → Prop} {x0 : Int} {x1 : Int} {v2 : bm_V} {x3 : Int} {x4 : Int} {ι : bm_S}
  (h : (if (11 : Int) ≤ x4 then
      (bm_rg (64 * x3)) ∧
      (0 ≤ x0 ∧ 0 < (8 : Int)) ∧
      (bm_rg (8 * (x0 % 8))) ∧
      (bm_rg (64 * x3 + 8 * (x0 % 8))) ∧
      (0 ≤ x1 ∧ 0 < (8 : Int)) ∧
      (bm_rg (64 * x3 + 8 * (x0 % 8) + x1 % 8)) ∧
      Q (.inl (some (bi (64 * x3 + 8 * (x0 % 8) + x1 % 8)))) ι
    else
      (0 ≤ x4 ∧ x4 < (11 : Int)) ∧
      (0 ≤ x0 ∧ 0 < (8 : Int)) ∧
      (if bm_X sc 202 x4 = x0 / 8 then
        (0 ≤ x4 ∧ x4 < (11 : Int)) ∧
        (0 ≤ x1 ∧ 0 < (8 : Int)) ∧
        (if bm_X sc 203 x4 = x1 / 8 then
          (bm_rg (x4 + 1)) ∧
          bW sc 105 24 [bi x0, bi x1, v2, bi x4, bi (x4 + 1)] [] ι Q
        else
          (bm_rg (x4 + 1)) ∧
          bW sc 105 24 [bi x0, bi x1, v2, bi x3, bi (x4 + 1)] [] ι Q)
      else
        (bm_rg (x4 + 1)) ∧
        bW sc 105 24 [bi x0, bi x1, v2, bi x3, bi (x4 + 1)] [] ι Q))) :
  bW sc 105 24 [bi x0, bi x1, v2, bi x3, bi x4] [] ι Q := bm_snd 105 [24] 23 h
-- P_tellPart
set_option maxRecDepth 100000 in
theorem e_P_tellPart_0 {sc : bm_Sc} {Q : bm_O → bm_S → Prop} {x1 : Int} {ι : bm_S}
  (h : bC sc 36 [br 5 0] ι (bk0 (fun ι1 => 
      bC sc 36 [br 5 1] ι1 (bk0 (fun ι2 => 
        bC sc 36 [br 5 2] ι2 (bk0 (fun ι3 => 
          bW sc 106 25 [br 9 0, bi x1, bi 0, bi 0, bu] [] ι3 Q) (bq Q))) (bq Q))) (bq Q))) :
  bC sc 106 [br 9 0, bi x1] ι Q := bm_snd 106 [25, 49] 14 h
set_option maxRecDepth 100000 in
theorem e_P_tellPart_25 {sc : bm_Sc} {Q : bm_O → bm_S → Prop} {x1 : Int} {x2 : Int} {x3 : Int} {v4 : bm_V} {ι : bm_S}
  (h : (if ι 9 0 4 ≤ x3 then
      bC sc 19 [br 2 1, bi 1, bi 4] ι (bk0 (fun ι1 => 
        (bm_rg (x1 - 1)) ∧
        bC sc 19 [br 2 1, bi (x1 - 1), bi 16] ι1 (bk0 (fun ι2 => 
          bC sc 19 [br 2 1, bi 0, bi 13] ι2 (bk0 (fun ι3 => 
            bC sc 39 [br 5 0, br 2 1, br 5 3] ι3 (bk0 (fun ι4 => 
              bC sc 39 [br 5 1, br 2 1, br 5 3] ι4 (bk0 (fun ι5 => 
                bC sc 39 [br 5 2, br 2 1, br 5 3] ι5 (bk0 (fun ι6 => 
                  Q (.inl none) ι6) (bq Q))) (bq Q))) (bq Q))) (bq Q))) (bq Q))) (bq Q))
    else
      (0 ≤ x3 ∧ x3 < (501 : Int)) ∧
      bC sc 37 [br 5 1, bi (ι 58 0 x3)] ι (bk0 (fun ι7 => 
        bW sc 106 49 [br 9 0, bi x1, bi x2, bi x3, bi 0] [] ι7 Q) (bq Q)))) :
  bW sc 106 25 [br 9 0, bi x1, bi x2, bi x3, v4] [] ι Q := bm_snd 106 [25, 49] 43 h
set_option maxRecDepth 100000 in
theorem e_P_tellPart_49 {sc : bm_Sc} {Q : bm_O → bm_S → Prop} {x1 : Int} {x2 : Int} {x3 : Int} {x4 : Int} {ι : bm_S}
  (h : (0 ≤ x3 ∧ x3 < (501 : Int)) ∧
    (if ι 55 0 x3 ≤ x4 then
      (0 ≤ x3 ∧ x3 < (501 : Int)) ∧
      bC sc 37 [br 5 2, bi (ι 59 0 x3)] ι (bk0 (fun ι1 => 
        (0 ≤ x3 ∧ x3 < (501 : Int)) ∧
        (0 ≤ x3 ∧ x3 < (501 : Int)) ∧
        (bm_rg (ι1 55 0 x3 + ι1 60 0 x3)) ∧
        (bm_rg (x2 + (ι1 55 0 x3 + ι1 60 0 x3))) ∧
        (bm_rg (x3 + 1)) ∧
        bW sc 106 25 [br 9 0, bi x1, bi (x2 + (ι1 55 0 x3 + ι1 60 0 x3)), bi (x3 + 1), bi x4] [] ι1 Q) (bq Q))
    else
      (bm_rg (x2 + x4)) ∧
      bC sc 15 [br 2 0, bi (x2 + x4)] ι (bk1 (fun r2 ι2 => 
        bC sc 37 [br 5 0, bi r2] ι2 (bk0 (fun ι3 => 
          (bm_rg (x4 + 1)) ∧
          bW sc 106 49 [br 9 0, bi x1, bi x2, bi x3, bi (x4 + 1)] [] ι3 Q) (bq Q))) (bq Q)))) :
  bW sc 106 49 [br 9 0, bi x1, bi x2, bi x3, bi x4] [] ι Q := bm_snd 106 [25, 49] 28 h
-- P_writeCommands
set_option maxRecDepth 100000 in
theorem e_P_writeCommands_0 {sc : bm_Sc} {Q : bm_O → bm_S → Prop}  {ι : bm_S}
  (h : bW sc 107 4 [br 9 0, bi 0, bi 0, bu, bu, bu] [] ι Q) :
  bC sc 107 [br 9 0] ι Q := bm_snd 107 [4, 109] 5 h
set_option maxRecDepth 100000 in
theorem e_P_writeCommands_4 {sc : bm_Sc} {Q : bm_O → bm_S → Prop} {x1 : Int} {x2 : Int} {v3 : bm_V} {v4 : bm_V} {v5 : bm_V} {ι : bm_S}
  (h : (if ι 9 0 4 ≤ x2 then
      Q (.inl none) ι
    else
      (0 ≤ x2 ∧ x2 < (501 : Int)) ∧
      bC sc 38 [br 5 1, br 2 1, bi (ι 58 0 x2)] ι (bk0 (fun ι1 => 
        (0 ≤ x2 ∧ x2 < (501 : Int)) ∧
        bC sc 104 [br 200 0, bi (ι1 55 0 x2)] ι1 (bk1 (fun r2 ι2 => 
          (0 ≤ x2 ∧ x2 < (501 : Int)) ∧
          bC sc 104 [br 201 0, bi (ι2 56 0 x2)] ι2 (bk1 (fun r3 ι3 => 
            (0 ≤ x2 ∧ x2 < (501 : Int)) ∧
            (0 ≤ r2 ∧ r2 < (24 : Int)) ∧
            (bm_rg (ι3 55 0 x2 - bm_X sc 200 r2)) ∧
            (0 ≤ r2 ∧ r2 < (24 : Int)) ∧
            bC sc 19 [br 2 1, bi (ι3 55 0 x2 - bm_X sc 200 r2), bi (bm_X sc 207 r2)] ι3 (bk0 (fun ι4 => 
              (0 ≤ x2 ∧ x2 < (501 : Int)) ∧
              (0 ≤ r3 ∧ r3 < (24 : Int)) ∧
              (bm_rg (ι4 56 0 x2 - bm_X sc 201 r3)) ∧
              (0 ≤ r3 ∧ r3 < (24 : Int)) ∧
              bC sc 19 [br 2 1, bi (ι4 56 0 x2 - bm_X sc 201 r3), bi (bm_X sc 208 r3)] ι4 (bk0 (fun ι5 => 
                bW sc 107 109 [br 9 0, bi x1, bi x2, bi r2, bi r3, bi 0] [] ι5 Q) (bq Q))) (bq Q))) (bq Q))) (bq Q))) (bq Q)))) :
  bW sc 107 4 [br 9 0, bi x1, bi x2, v3, v4, v5] [] ι Q := bm_snd 107 [4, 109] 58 h
set_option maxRecDepth 100000 in
theorem e_P_writeCommands_109 {sc : bm_Sc} {Q : bm_O → bm_S → Prop} {x1 : Int} {x2 : Int} {v3 : bm_V} {v4 : bm_V} {x5 : Int} {ι : bm_S}
  (h : (0 ≤ x2 ∧ x2 < (501 : Int)) ∧
    (if ι 55 0 x2 ≤ x5 then
      (0 ≤ x2 ∧ x2 < (501 : Int)) ∧
      (if ι 59 0 x2 < (0 : Int) then
        (0 ≤ x2 ∧ x2 < (501 : Int)) ∧
        (if ι 59 0 x2 < (16 : Int) then
          (0 ≤ x2 ∧ x2 < (501 : Int)) ∧
          (0 ≤ x2 ∧ x2 < (501 : Int)) ∧
          (bm_rg (ι 55 0 x2 + ι 60 0 x2)) ∧
          (bm_rg (x1 + (ι 55 0 x2 + ι 60 0 x2))) ∧
          (bm_rg (x2 + 1)) ∧
          bW sc 107 4 [br 9 0, bi (x1 + (ι 55 0 x2 + ι 60 0 x2)), bi (x2 + 1), v3, v4, bi x5] [] ι Q
        else
          (0 ≤ x2 ∧ x2 < (501 : Int)) ∧
          (bm_rg (ι 57 0 x2 + 3)) ∧
          (0 ≤ x2 ∧ x2 < (501 : Int)) ∧
          (bm_rg (ι 59 0 x2 - 16)) ∧
          (0 ≤ ι 59 0 x2 - 16 ∧ 0 < (2 : Int)) ∧
          (bm_rg (1 + (ι 59 0 x2 - 16) / 2)) ∧
          bC sc 19 [br 2 1, bi (ι 57 0 x2 + 3), bi (1 + (ι 59 0 x2 - 16) / 2)] ι (bk0 (fun ι1 => 
            (0 ≤ x2 ∧ x2 < (501 : Int)) ∧
            (0 ≤ x2 ∧ x2 < (501 : Int)) ∧
            (bm_rg (ι1 55 0 x2 + ι1 60 0 x2)) ∧
            (bm_rg (x1 + (ι1 55 0 x2 + ι1 60 0 x2))) ∧
            (bm_rg (x2 + 1)) ∧
            bW sc 107 4 [br 9 0, bi (x1 + (ι1 55 0 x2 + ι1 60 0 x2)), bi (x2 + 1), v3, v4, bi x5] [] ι1 Q) (bq Q)))
      else
        (0 ≤ x2 ∧ x2 < (501 : Int)) ∧
        bC sc 38 [br 5 2, br 2 1, bi (ι 59 0 x2)] ι (bk0 (fun ι2 => 
          (0 ≤ x2 ∧ x2 < (501 : Int)) ∧
          (if ι2 59 0 x2 < (16 : Int) then
            (0 ≤ x2 ∧ x2 < (501 : Int)) ∧
            (0 ≤ x2 ∧ x2 < (501 : Int)) ∧
            (bm_rg (ι2 55 0 x2 + ι2 60 0 x2)) ∧
            (bm_rg (x1 + (ι2 55 0 x2 + ι2 60 0 x2))) ∧
            (bm_rg (x2 + 1)) ∧
            bW sc 107 4 [br 9 0, bi (x1 + (ι2 55 0 x2 + ι2 60 0 x2)), bi (x2 + 1), v3, v4, bi x5] [] ι2 Q
          else
            (0 ≤ x2 ∧ x2 < (501 : Int)) ∧
            (bm_rg (ι2 57 0 x2 + 3)) ∧
            (0 ≤ x2 ∧ x2 < (501 : Int)) ∧
            (bm_rg (ι2 59 0 x2 - 16)) ∧
            (0 ≤ ι2 59 0 x2 - 16 ∧ 0 < (2 : Int)) ∧
            (bm_rg (1 + (ι2 59 0 x2 - 16) / 2)) ∧
            bC sc 19 [br 2 1, bi (ι2 57 0 x2 + 3), bi (1 + (ι2 59 0 x2 - 16) / 2)] ι2 (bk0 (fun ι3 => 
              (0 ≤ x2 ∧ x2 < (501 : Int)) ∧
              (0 ≤ x2 ∧ x2 < (501 : Int)) ∧
              (bm_rg (ι3 55 0 x2 + ι3 60 0 x2)) ∧
              (bm_rg (x1 + (ι3 55 0 x2 + ι3 60 0 x2))) ∧
              (bm_rg (x2 + 1)) ∧
              bW sc 107 4 [br 9 0, bi (x1 + (ι3 55 0 x2 + ι3 60 0 x2)), bi (x2 + 1), v3, v4, bi x5] [] ι3 Q) (bq Q)))) (bq Q)))
    else
      (bm_rg (x1 + x5)) ∧
      bC sc 15 [br 2 0, bi (x1 + x5)] ι (bk1 (fun r4 ι4 => 
        bC sc 38 [br 5 0, br 2 1, bi r4] ι4 (bk0 (fun ι5 => 
          (bm_rg (x5 + 1)) ∧
          bW sc 107 109 [br 9 0, bi x1, bi x2, v3, v4, bi (x5 + 1)] [] ι5 Q) (bq Q))) (bq Q)))) :
  bW sc 107 109 [br 9 0, bi x1, bi x2, v3, v4, bi x5] [] ι Q := bm_snd 107 [4, 109] 60 h
-- CW_start
set_option maxRecDepth 100000 in
theorem e_CW_start_0 {sc : bm_Sc} {Q : bm_O → bm_S → Prop} {n0 : Int} {ι : bm_S}
  (h : bC sc 260 [br 26 n0, bi 0] ι (bk0 (fun ι1 => 
      Q (.inl none) ι1) (bq Q))) :
  bC sc 36 [br 5 n0] ι Q := bm_snd 36 [] 5 h
-- CW_note
set_option maxRecDepth 100000 in
theorem e_CW_note_0 {sc : bm_Sc} {Q : bm_O → bm_S → Prop} {n0 : Int} {x1 : Int} {ι : bm_S}
  (h : (if x1 < (0 : Int) then
      Q (.inl none) ι
    else
      (if bm_L 26 n0 ≤ x1 then
        Q (.inl none) ι
      else
        (0 ≤ x1 ∧ x1 < bm_L 26 n0) ∧
        (bm_rg (ι 26 n0 x1 + 1)) ∧
        (0 ≤ x1 ∧ x1 < bm_L 26 n0) ∧
        Q (.inl none) (up ι 26 n0 x1 (ι 26 n0 x1 + 1))))) :
  bC sc 37 [br 5 n0, bi x1] ι Q := bm_snd 37 [] 16 h
-- CW_write
set_option maxRecDepth 100000 in
theorem e_CW_write_0 {sc : bm_Sc} {Q : bm_O → bm_S → Prop} {n0 : Int} {n1 : Int} {x2 : Int} {ι : bm_S}
  (h : (if x2 < (0 : Int) then
      Q (.inl none) ι
    else
      (if bm_L 28 n0 ≤ x2 then
        Q (.inl none) ι
      else
        (0 ≤ x2 ∧ x2 < bm_L 28 n0) ∧
        (0 ≤ x2 ∧ x2 < bm_L 27 n0) ∧
        bC sc 19 [br 2 n1, bi (ι 28 n0 x2), bi (ι 27 n0 x2)] ι (bk0 (fun ι1 => 
          Q (.inl none) ι1) (bq Q))))) :
  bC sc 38 [br 5 n0, br 2 n1, bi x2] ι Q := bm_snd 38 [] 18 h
-- CW_tell
set_option maxRecDepth 100000 in
theorem e_CW_tell_0 {sc : bm_Sc} {Q : bm_O → bm_S → Prop} {n0 : Int} {n1 : Int} {n2 : Int} {ι : bm_S}
  (h : bC sc 40 [br 5 n0, bi 15] ι (bk0 (fun ι1 => 
      (if (4 : Int) < ι1 5 n0 9 then
        bC sc 48 [br 5 n0] ι1 (bk0 (fun ι2 => 
          bC sc 36 [br 5 n2] ι2 (bk0 (fun ι3 => 
            bW sc 39 30 [br 5 n0, br 2 n1, br 5 n2, bi 0] [] ι3 Q) (bq Q))) (bq Q))
      else
        bC sc 47 [br 5 n0, br 2 n1] ι1 (bk0 (fun ι4 => 
          Q (.inl none) ι4) (bq Q)))) (bq Q))) :
  bC sc 39 [br 5 n0, br 2 n1, br 5 n2] ι Q := bm_snd 39 [30, 72] 14 h
set_option maxRecDepth 100000 in
theorem e_CW_tell_30 {sc : bm_Sc} {Q : bm_O → bm_S → Prop} {n0 : Int} {n1 : Int} {n2 : Int} {x3 : Int} {ι : bm_S}
  (h : (if ι 5 n0 10 ≤ x3 then
      bC sc 40 [br 5 n2, bi 5] ι (bk0 (fun ι1 => 
        bC sc 19 [br 2 n1, bi 0, bi 2] ι1 (bk0 (fun ι2 => 
          bC sc 50 [br 5 n2, br 2 n1] ι2 (bk0 (fun ι3 => 
            bW sc 39 72 [br 5 n0, br 2 n1, br 5 n2, bi 0] [] ι3 Q) (bq Q))) (bq Q))) (bq Q))
    else
      (0 ≤ x3 ∧ x3 < bm_L 30 n0) ∧
      bC sc 37 [br 5 n2, bi (ι 30 n0 x3)] ι (bk0 (fun ι4 => 
        (bm_rg (x3 + 1)) ∧
        bW sc 39 30 [br 5 n0, br 2 n1, br 5 n2, bi (x3 + 1)] [] ι4 Q) (bq Q)))) :
  bW sc 39 30 [br 5 n0, br 2 n1, br 5 n2, bi x3] [] ι Q := bm_snd 39 [30, 72] 17 h
set_option maxRecDepth 100000 in
theorem e_CW_tell_72 {sc : bm_Sc} {Q : bm_O → bm_S → Prop} {n0 : Int} {n1 : Int} {n2 : Int} {x3 : Int} {ι : bm_S}
  (h : (if ι 5 n0 10 ≤ x3 then
      Q (.inl none) ι
    else
      (0 ≤ x3 ∧ x3 < bm_L 30 n0) ∧
      bC sc 38 [br 5 n2, br 2 n1, bi (ι 30 n0 x3)] ι (bk0 (fun ι1 => 
        (0 ≤ x3 ∧ x3 < bm_L 30 n0) ∧
        (if ι1 30 n0 x3 = (17 : Int) then
          (0 ≤ x3 ∧ x3 < bm_L 31 n0) ∧
          (bm_rg (ι1 31 n0 x3 - 3)) ∧
          bC sc 19 [br 2 n1, bi (ι1 31 n0 x3 - 3), bi 3] ι1 (bk0 (fun ι2 => 
            (bm_rg (x3 + 1)) ∧
            bW sc 39 72 [br 5 n0, br 2 n1, br 5 n2, bi (x3 + 1)] [] ι2 Q) (bq Q))
        else
          (bm_rg (x3 + 1)) ∧
          bW sc 39 72 [br 5 n0, br 2 n1, br 5 n2, bi (x3 + 1)] [] ι1 Q)) (bq Q)))) :
  bW sc 39 72 [br 5 n0, br 2 n1, br 5 n2, bi x3] [] ι Q := bm_snd 39 [30, 72] 29 h
-- CW_settle
set_option maxRecDepth 100000 in
theorem e_CW_settle_0 {sc : bm_Sc} {Q : bm_O → bm_S → Prop} {n0 : Int} {x1 : Int} {ι : bm_S}
  (h : bC sc 260 [br 27 n0, bi 0] ι (bk0 (fun ι1 => 
      bW sc 40 15 [br 5 n0, bi x1, bi 0, bu] [] (up ι1 5 n0 9 0) Q) (bq Q))) :
  bC sc 40 [br 5 n0, bi x1] ι Q := bm_snd 40 [15, 95, 122] 10 h
set_option maxRecDepth 100000 in
theorem e_CW_settle_15 {sc : bm_Sc} {Q : bm_O → bm_S → Prop} {n0 : Int} {x1 : Int} {x2 : Int} {v3 : bm_V} {ι : bm_S}
  (h : (if bm_L 26 n0 ≤ x2 then
      (if (2 : Int) ≤ ι 5 n0 9 then
        bW sc 40 95 [br 5 n0, bi x1, bi 0, v3] [] ι Q
      else
        (if ι 5 n0 9 = (0 : Int) then
          (0 ≤ (0 : Int) ∧ (0 : Int) < bm_L 29 n0) ∧
          Q (.inl none) (up (up ι 29 n0 0 0) 5 n0 9 1)
        else
          (0 ≤ (0 : Int) ∧ (0 : Int) < bm_L 29 n0) ∧
          (0 ≤ (0 : Int) ∧ (0 : Int) < bm_L 29 n0) ∧
          Q (.inl none) (up (up ι 29 n0 0 (ι 29 n0 0)) 5 n0 9 1)))
    else
      (0 ≤ x2 ∧ x2 < bm_L 26 n0) ∧
      (if ι 26 n0 x2 ≤ (0 : Int) then
        (bm_rg (x2 + 1)) ∧
        bW sc 40 15 [br 5 n0, bi x1, bi (x2 + 1), v3] [] ι Q
      else
        (bm_rg (ι 5 n0 9 + 1)) ∧
        (0 ≤ ι 5 n0 9 ∧ ι 5 n0 9 < bm_L 29 n0) ∧
        (bm_rg (x2 + 1)) ∧
        bW sc 40 15 [br 5 n0, bi x1, bi (x2 + 1), v3] [] (up (up ι 5 n0 9 (ι 5 n0 9 + 1)) 29 n0 (ι 5 n0 9) x2) Q))) :
  bW sc 40 15 [br 5 n0, bi x1, bi x2, v3] [] ι Q := bm_snd 40 [15, 95, 122] 24 h
set_option maxRecDepth 100000 in
theorem e_CW_settle_95 {sc : bm_Sc} {Q : bm_O → bm_S → Prop} {n0 : Int} {x1 : Int} {x2 : Int} {v3 : bm_V} {ι : bm_S}
  (h : (if (40 : Int) ≤ x2 then
      bC sc 45 [br 5 n0] ι (bk0 (fun ι1 => 
        Q (.inl none) ι1) (bq Q))
    else
      bC sc 42 [br 5 n0] ι (bk0 (fun ι2 => 
        bC sc 43 [br 5 n0] ι2 (bk0 (fun ι3 => 
          bC sc 44 [br 5 n0] ι3 (bk1 (fun r4 ι4 => 
            (if x1 < r4 then
              bW sc 40 122 [br 5 n0, bi x1, bi x2, bi 0] [] ι4 Q
            else
              bC sc 45 [br 5 n0] ι4 (bk0 (fun ι5 => 
                Q (.inl none) ι5) (bq Q)))) (bq Q))) (bq Q))) (bq Q)))) :
  bW sc 40 95 [br 5 n0, bi x1, bi x2, v3] [] ι Q := bm_snd 40 [15, 95, 122] 15 h
set_option maxRecDepth 100000 in
theorem e_CW_settle_122 {sc : bm_Sc} {Q : bm_O → bm_S → Prop} {n0 : Int} {x1 : Int} {x2 : Int} {x3 : Int} {ι : bm_S}
  (h : (if ι 5 n0 9 ≤ x3 then
      (bm_rg (x2 + 1)) ∧
      bW sc 40 95 [br 5 n0, bi x1, bi (x2 + 1), bi x3] [] ι Q
    else
      (0 ≤ x3 ∧ x3 < bm_L 29 n0) ∧
      (0 ≤ x3 ∧ x3 < bm_L 29 n0) ∧
      (0 ≤ ι 29 n0 x3 ∧ ι 29 n0 x3 < bm_L 26 n0) ∧
      (0 ≤ ι 26 n0 (ι 29 n0 x3) ∧ 0 < (2 : Int)) ∧
      (bm_rg (ι 26 n0 (ι 29 n0 x3) / 2 + 1)) ∧
      (0 ≤ ι 29 n0 x3 ∧ ι 29 n0 x3 < bm_L 26 n0) ∧
      (bm_rg (x3 + 1)) ∧
      bW sc 40 122 [br 5 n0, bi x1, bi x2, bi (x3 + 1)] [] (up ι 26 n0 (ι 29 n0 x3) (ι 26 n0 (ι 29 n0 x3) / 2 + 1)) Q)) :
  bW sc 40 122 [br 5 n0, bi x1, bi x2, bi x3] [] ι Q := bm_snd 40 [15, 95, 122] 25 h
-- CW_comesLater
set_option maxRecDepth 100000 in
theorem e_CW_comesLater_0 {sc : bm_Sc} {Q : bm_O → bm_S → Prop} {n0 : Int} {x1 : Int} {x2 : Int} {ι : bm_S}
  (h : (0 ≤ x1 ∧ x1 < bm_L 26 n0) ∧
    (0 ≤ x2 ∧ x2 < bm_L 26 n0) ∧
    (if ι 26 n0 x2 < ι 26 n0 x1 then
      ((1 : Int) = 0 ∨ (1 : Int) = 1) ∧
      Q (.inl (some (bi 1))) ι
    else
      (0 ≤ x1 ∧ x1 < bm_L 26 n0) ∧
      (0 ≤ x2 ∧ x2 < bm_L 26 n0) ∧
      (if ι 26 n0 x1 = ι 26 n0 x2 then
        (if x1 ≤ x2 then
          ((0 : Int) = 0 ∨ (0 : Int) = 1) ∧
          Q (.inl (some (bi 0))) ι
        else
          ((1 : Int) = 0 ∨ (1 : Int) = 1) ∧
          Q (.inl (some (bi 1))) ι)
      else
        ((0 : Int) = 0 ∨ (0 : Int) = 1) ∧
        Q (.inl (some (bi 0))) ι))) :
  bC sc 41 [br 5 n0, bi x1, bi x2] ι Q := bm_snd 41 [] 24 h
-- CW_sortOrder
set_option maxRecDepth 100000 in
theorem e_CW_sortOrder_0 {sc : bm_Sc} {Q : bm_O → bm_S → Prop} {n0 : Int} {ι : bm_S}
  (h : bW sc 42 2 [br 5 n0, bi 1, bu, bu] [] ι Q) :
  bC sc 42 [br 5 n0] ι Q := bm_snd 42 [2, 19] 3 h
set_option maxRecDepth 100000 in
theorem e_CW_sortOrder_2 {sc : bm_Sc} {Q : bm_O → bm_S → Prop} {n0 : Int} {x1 : Int} {v2 : bm_V} {v3 : bm_V} {ι : bm_S}
  (h : (if ι 5 n0 9 ≤ x1 then
      Q (.inl none) ι
    else
      (0 ≤ x1 ∧ x1 < bm_L 29 n0) ∧
      bW sc 42 19 [br 5 n0, bi x1, bi (ι 29 n0 x1), bi x1] [] ι Q)) :
  bW sc 42 2 [br 5 n0, bi x1, v2, v3] [] ι Q := bm_snd 42 [2, 19] 12 h
set_option maxRecDepth 100000 in
theorem e_CW_sortOrder_19 {sc : bm_Sc} {Q : bm_O → bm_S → Prop} {n0 : Int} {x1 : Int} {x2 : Int} {x3 : Int} {ι : bm_S}
  (h : (if x3 ≤ (0 : Int) then
      (0 ≤ x3 ∧ x3 < bm_L 29 n0) ∧
      (bm_rg (x1 + 1)) ∧
      bW sc 42 2 [br 5 n0, bi (x1 + 1), bi x2, bi x3] [] (up ι 29 n0 x3 x2) Q
    else
      (bm_rg (x3 - 1)) ∧
      (0 ≤ x3 - 1 ∧ x3 - 1 < bm_L 29 n0) ∧
      bC sc 41 [br 5 n0, bi (ι 29 n0 (x3 - 1)), bi x2] ι (bk1 (fun r1 ι1 => 
        (if r1 = (0 : Int) then
          (0 ≤ x3 ∧ x3 < bm_L 29 n0) ∧
          (bm_rg (x1 + 1)) ∧
          bW sc 42 2 [br 5 n0, bi (x1 + 1), bi x2, bi x3] [] (up ι1 29 n0 x3 x2) Q
        else
          (bm_rg (x3 - 1)) ∧
          (0 ≤ x3 - 1 ∧ x3 - 1 < bm_L 29 n0) ∧
          (0 ≤ x3 ∧ x3 < bm_L 29 n0) ∧
          (bm_rg (x3 + (-1))) ∧
          bW sc 42 19 [br 5 n0, bi x1, bi x2, bi (x3 + (-1))] [] (up ι1 29 n0 x3 (ι1 29 n0 (x3 - 1))) Q)) (bq Q)))) :
  bW sc 42 19 [br 5 n0, bi x1, bi x2, bi x3] [] ι Q := bm_snd 42 [2, 19] 25 h
-- CW_joinAll
set_option maxRecDepth 100000 in
theorem e_CW_joinAll_0 {sc : bm_Sc} {Q : bm_O → bm_S → Prop} {n0 : Int} {ι : bm_S}
  (h : bW sc 43 2 [br 5 n0, bi 0, bu, bu, bu, bu, bu] [] ι Q) :
  bC sc 43 [br 5 n0] ι Q := bm_snd 43 [2, 45, 67] 3 h
set_option maxRecDepth 100000 in
theorem e_CW_joinAll_2 {sc : bm_Sc} {Q : bm_O → bm_S → Prop} {n0 : Int} {x1 : Int} {v2 : bm_V} {v3 : bm_V} {v4 : bm_V} {v5 : bm_V} {v6 : bm_V} {ι : bm_S}
  (h : (if ι 5 n0 9 ≤ x1 then
      bW sc 43 45 [br 5 n0, bi 0, bi (ι 5 n0 9), bi (ι 5 n0 9), v4, v5, v6] [] ι Q
    else
      (0 ≤ x1 ∧ x1 < bm_L 29 n0) ∧
      (0 ≤ ι 29 n0 x1 ∧ ι 29 n0 x1 < bm_L 26 n0) ∧
      (0 ≤ x1 ∧ x1 < bm_L 32 n0) ∧
      (bm_rg (x1 + 1)) ∧
      bW sc 43 2 [br 5 n0, bi (x1 + 1), v2, v3, v4, v5, v6] [] (up ι 32 n0 x1 (ι 26 n0 (ι 29 n0 x1))) Q)) :
  bW sc 43 2 [br 5 n0, bi x1, v2, v3, v4, v5, v6] [] ι Q := bm_snd 43 [2, 45, 67] 18 h
set_option maxRecDepth 100000 in
theorem e_CW_joinAll_45 {sc : bm_Sc} {Q : bm_O → bm_S → Prop} {n0 : Int} {x1 : Int} {x2 : Int} {x3 : Int} {v4 : bm_V} {v5 : bm_V} {v6 : bm_V} {ι : bm_S}
  (h : (bm_rg (2 * ι 5 n0 9)) ∧
    (bm_rg (2 * ι 5 n0 9 - 1)) ∧
    (if 2 * ι 5 n0 9 - 1 ≤ x3 then
      Q (.inl none) ι
    else
      (0 ≤ x3 ∧ x3 < bm_L 32 n0) ∧
      bW sc 43 67 [br 5 n0, bi x1, bi x2, bi x3, bi 0, v5, v6] [] (up ι 32 n0 x3 0) Q)) :
  bW sc 43 45 [br 5 n0, bi x1, bi x2, bi x3, v4, v5, v6] [] ι Q := bm_snd 43 [2, 45, 67] 16 h
set_option maxRecDepth 100000 in
theorem e_CW_joinAll_67 {sc : bm_Sc} {Q : bm_O → bm_S → Prop} {n0 : Int} {x1 : Int} {x2 : Int} {x3 : Int} {x4 : Int} {v5 : bm_V} {v6 : bm_V} {ι : bm_S}
  (h : (if (2 : Int) ≤ x4 then
      (bm_rg (x3 + 1)) ∧
      bW sc 43 45 [br 5 n0, bi x1, bi x2, bi (x3 + 1), bi x4, v5, v6] [] ι Q
    else
      (if x3 ≤ x2 then
        (bm_rg (x1 + 1)) ∧
        (0 ≤ x3 ∧ x3 < bm_L 32 n0) ∧
        (0 ≤ x1 ∧ x1 < bm_L 32 n0) ∧
        (bm_rg (ι 32 n0 x3 + ι 32 n0 x1)) ∧
        (0 ≤ x3 ∧ x3 < bm_L 32 n0) ∧
        (0 ≤ x1 ∧ x1 < bm_L 33 n0) ∧
        (bm_rg (x4 + 1)) ∧
        bW sc 43 67 [br 5 n0, bi (x1 + 1), bi x2, bi x3, bi (x4 + 1), bi 1, bi x1] [] (up (up ι 32 n0 x3 (ι 32 n0 x3 + ι 32 n0 x1)) 33 n0 x1 x3) Q
      else
        (if ι 5 n0 9 ≤ x1 then
          (bm_rg (x2 + 1)) ∧
          (0 ≤ x3 ∧ x3 < bm_L 32 n0) ∧
          (0 ≤ x2 ∧ x2 < bm_L 32 n0) ∧
          (bm_rg (ι 32 n0 x3 + ι 32 n0 x2)) ∧
          (0 ≤ x3 ∧ x3 < bm_L 32 n0) ∧
          (0 ≤ x2 ∧ x2 < bm_L 33 n0) ∧
          (bm_rg (x4 + 1)) ∧
          bW sc 43 67 [br 5 n0, bi x1, bi (x2 + 1), bi x3, bi (x4 + 1), bi 0, bi x2] [] (up (up ι 32 n0 x3 (ι 32 n0 x3 + ι 32 n0 x2)) 33 n0 x2 x3) Q
        else
          (0 ≤ x1 ∧ x1 < bm_L 32 n0) ∧
          (0 ≤ x2 ∧ x2 < bm_L 32 n0) ∧
          (if ι 32 n0 x2 < ι 32 n0 x1 then
            (bm_rg (x2 + 1)) ∧
            (0 ≤ x3 ∧ x3 < bm_L 32 n0) ∧
            (0 ≤ x2 ∧ x2 < bm_L 32 n0) ∧
            (bm_rg (ι 32 n0 x3 + ι 32 n0 x2)) ∧
            (0 ≤ x3 ∧ x3 < bm_L 32 n0) ∧
            (0 ≤ x2 ∧ x2 < bm_L 33 n0) ∧
            (bm_rg (x4 + 1)) ∧
            bW sc 43 67 [br 5 n0, bi x1, bi (x2 + 1), bi x3, bi (x4 + 1), bi 0, bi x2] [] (up (up ι 32 n0 x3 (ι 32 n0 x3 + ι 32 n0 x2)) 33 n0 x2 x3) Q
          else
            (bm_rg (x1 + 1)) ∧
            (0 ≤ x3 ∧ x3 < bm_L 32 n0) ∧
            (0 ≤ x1 ∧ x1 < bm_L 32 n0) ∧
            (bm_rg (ι 32 n0 x3 + ι 32 n0 x1)) ∧
            (0 ≤ x3 ∧ x3 < bm_L 32 n0) ∧
            (0 ≤ x1 ∧ x1 < bm_L 33 n0) ∧
            (bm_rg (x4 + 1)) ∧
            bW sc 43 67 [br 5 n0, bi (x1 + 1), bi x2, bi x3, bi (x4 + 1), bi 1, bi x1] [] (up (up ι 32 n0 x3 (ι 32 n0 x3 + ι 32 n0 x1)) 33 n0 x1 x3) Q))))) :
  bW sc 43 67 [br 5 n0, bi x1, bi x2, bi x3, bi x4, v5, v6] [] ι Q := bm_snd 43 [2, 45, 67] 47 h
-- CW_depthOfAll
set_option maxRecDepth 100000 in
theorem e_CW_depthOfAll_0 {sc : bm_Sc} {Q : bm_O → bm_S → Prop} {n0 : Int} {ι : bm_S}
  (h : (bm_rg (2 * ι 5 n0 9)) ∧
    (bm_rg (2 * ι 5 n0 9 - 2)) ∧
    (0 ≤ 2 * ι 5 n0 9 - 2 ∧ 2 * ι 5 n0 9 - 2 < bm_L 34 n0) ∧
    (bm_rg (2 * ι 5 n0 9)) ∧
    (bm_rg (2 * ι 5 n0 9 - 3)) ∧
    bW sc 44 25 [br 5 n0, bi 0, bi (2 * ι 5 n0 9 - 3)] [] (up ι 34 n0 (2 * ι 5 n0 9 - 2) 0) Q) :
  bC sc 44 [br 5 n0] ι Q := bm_snd 44 [25, 67] 20 h
set_option maxRecDepth 100000 in
theorem e_CW_depthOfAll_25 {sc : bm_Sc} {Q : bm_O → bm_S → Prop} {n0 : Int} {x1 : Int} {x2 : Int} {ι : bm_S}
  (h : (if x2 < (0 : Int) then
      bW sc 44 67 [br 5 n0, bi x1, bi 0] [] ι Q
    else
      (0 ≤ x2 ∧ x2 < bm_L 33 n0) ∧
      (0 ≤ ι 33 n0 x2 ∧ ι 33 n0 x2 < bm_L 34 n0) ∧
      (bm_rg (ι 34 n0 (ι 33 n0 x2) + 1)) ∧
      (0 ≤ x2 ∧ x2 < bm_L 34 n0) ∧
      (0 ≤ x2 ∧ x2 < bm_L 34 n0) ∧
      (bm_rg (x2 + (-1))) ∧
      bW sc 44 25 [br 5 n0, bi (max x1 ((up ι 34 n0 x2 (ι 34 n0 (ι 33 n0 x2) + 1)) 34 n0 x2)), bi (x2 + (-1))] [] (up ι 34 n0 x2 (ι 34 n0 (ι 33 n0 x2) + 1)) Q)) :
  bW sc 44 25 [br 5 n0, bi x1, bi x2] [] ι Q := bm_snd 44 [25, 67] 25 h
set_option maxRecDepth 100000 in
theorem e_CW_depthOfAll_67 {sc : bm_Sc} {Q : bm_O → bm_S → Prop} {n0 : Int} {x1 : Int} {x2 : Int} {ι : bm_S}
  (h : (if ι 5 n0 9 ≤ x2 then
      Q (.inl (some (bi x1))) ι
    else
      (0 ≤ x2 ∧ x2 < bm_L 29 n0) ∧
      (0 ≤ x2 ∧ x2 < bm_L 34 n0) ∧
      (0 ≤ ι 29 n0 x2 ∧ ι 29 n0 x2 < bm_L 27 n0) ∧
      (bm_rg (x2 + 1)) ∧
      bW sc 44 67 [br 5 n0, bi x1, bi (x2 + 1)] [] (up ι 27 n0 (ι 29 n0 x2) (ι 34 n0 x2)) Q)) :
  bW sc 44 67 [br 5 n0, bi x1, bi x2] [] ι Q := bm_snd 44 [25, 67] 18 h
-- CW_makeCodes
set_option maxRecDepth 100000 in
theorem e_CW_makeCodes_0 {sc : bm_Sc} {Q : bm_O → bm_S → Prop} {n0 : Int} {ι : bm_S}
  (h : bW sc 45 4 [br 5 n0, bi 0, bi 1, bu] [] ι Q) :
  bC sc 45 [br 5 n0] ι Q := bm_snd 45 [4, 16] 5 h
set_option maxRecDepth 100000 in
theorem e_CW_makeCodes_4 {sc : bm_Sc} {Q : bm_O → bm_S → Prop} {n0 : Int} {x1 : Int} {x2 : Int} {v3 : bm_V} {ι : bm_S}
  (h : (if (15 : Int) < x2 then
      Q (.inl none) ι
    else
      (bm_rg (2 * x1)) ∧
      bW sc 45 16 [br 5 n0, bi (2 * x1), bi x2, bi 0] [] ι Q)) :
  bW sc 45 4 [br 5 n0, bi x1, bi x2, v3] [] ι Q := bm_snd 45 [4, 16] 10 h
set_option maxRecDepth 100000 in
theorem e_CW_makeCodes_16 {sc : bm_Sc} {Q : bm_O → bm_S → Prop} {n0 : Int} {x1 : Int} {x2 : Int} {x3 : Int} {ι : bm_S}
  (h : (if bm_L 27 n0 ≤ x3 then
      (bm_rg (x2 + 1)) ∧
      bW sc 45 4 [br 5 n0, bi x1, bi (x2 + 1), bi x3] [] ι Q
    else
      (0 ≤ x3 ∧ x3 < bm_L 27 n0) ∧
      (if ι 27 n0 x3 = x2 then
        bC sc 46 [bi x1, bi x2] ι (bk1 (fun r1 ι1 => 
          (0 ≤ x3 ∧ x3 < bm_L 28 n0) ∧
          (bm_rg (x1 + 1)) ∧
          (bm_rg (x3 + 1)) ∧
          bW sc 45 16 [br 5 n0, bi (x1 + 1), bi x2, bi (x3 + 1)] [] (up ι1 28 n0 x3 r1) Q) (bq Q))
      else
        (bm_rg (x3 + 1)) ∧
        bW sc 45 16 [br 5 n0, bi x1, bi x2, bi (x3 + 1)] [] ι Q))) :
  bW sc 45 16 [br 5 n0, bi x1, bi x2, bi x3] [] ι Q := bm_snd 45 [4, 16] 22 h
-- CW_turned
set_option maxRecDepth 100000 in
theorem e_CW_turned_0 {sc : bm_Sc} {Q : bm_O → bm_S → Prop} {x0 : Int} {x1 : Int} {ι : bm_S}
  (h : bW sc 46 4 [bi x0, bi x1, bi 0, bi 0] [] ι Q) :
  bC sc 46 [bi x0, bi x1] ι Q := bm_snd 46 [4] 5 h
set_option maxRecDepth 100000 in
theorem e_CW_turned_4 {sc : bm_Sc} {Q : bm_O → bm_S → Prop} {x0 : Int} {x1 : Int} {x2 : Int} {x3 : Int} {ι : bm_S}
  (h : (if x1 ≤ x3 then
      Q (.inl (some (bi x2))) ι
    else
      (bm_rg (2 * x2)) ∧
      (0 ≤ x3 ∧ x3 < 32) ∧
      (bm_rg (2 * x2 + x0 / bm_p2 x3 % 2)) ∧
      (bm_rg (x3 + 1)) ∧
      bW sc 46 4 [bi x0, bi x1, bi (2 * x2 + x0 / bm_p2 x3 % 2), bi (x3 + 1)] [] ι Q)) :
  bW sc 46 4 [bi x0, bi x1, bi x2, bi x3] [] ι Q := bm_snd 46 [4] 16 h
-- CW_tellShort
set_option maxRecDepth 100000 in
theorem e_CW_tellShort_0 {sc : bm_Sc} {Q : bm_O → bm_S → Prop} {n0 : Int} {n1 : Int} {ι : bm_S}
  (h : (bm_rg (bm_L 26 n0 - 1)) ∧
    bC sc 141 [bi (bm_L 26 n0 - 1)] ι (bk1 (fun r1 ι1 => 
      bC sc 19 [br 2 n1, bi 1, bi 2] ι1 (bk0 (fun ι2 => 
        (bm_rg (ι2 5 n0 9 - 1)) ∧
        bC sc 19 [br 2 n1, bi (ι2 5 n0 9 - 1), bi 2] ι2 (bk0 (fun ι3 => 
          (if ι3 5 n0 9 = (1 : Int) then
            (0 ≤ (0 : Int) ∧ (0 : Int) < bm_L 29 n0) ∧
            bC sc 19 [br 2 n1, bi (ι3 29 n0 0), bi r1] ι3 (bk0 (fun ι4 => 
              Q (.inl none) ι4) (bq Q))
          else
            bW sc 47 53 [br 5 n0, br 2 n1, bi r1, bi 0, bi 1, bu] [] ι3 Q)) (bq Q))) (bq Q))) (bq Q))) :
  bC sc 47 [br 5 n0, br 2 n1] ι Q := bm_snd 47 [53, 62] 32 h
set_option maxRecDepth 100000 in
theorem e_CW_tellShort_53 {sc : bm_Sc} {Q : bm_O → bm_S → Prop} {n0 : Int} {n1 : Int} {x2 : Int} {x3 : Int} {x4 : Int} {v5 : bm_V} {ι : bm_S}
  (h : (if (3 : Int) < x4 then
      (if ι 5 n0 9 = (4 : Int) then
        (if x3 = (3 : Int) then
          bC sc 19 [br 2 n1, bi 1, bi 1] ι (bk0 (fun ι2 => 
            Q (.inl none) ι2) (bq Q))
        else
          bC sc 19 [br 2 n1, bi 0, bi 1] ι (bk0 (fun ι1 => 
            Q (.inl none) ι1) (bq Q)))
      else
        Q (.inl none) ι)
    else
      bW sc 47 62 [br 5 n0, br 2 n1, bi x2, bi x3, bi x4, bi 0] [] ι Q)) :
  bW sc 47 53 [br 5 n0, br 2 n1, bi x2, bi x3, bi x4, v5] [] ι Q := bm_snd 47 [53, 62] 16 h
set_option maxRecDepth 100000 in
theorem e_CW_tellShort_62 {sc : bm_Sc} {Q : bm_O → bm_S → Prop} {n0 : Int} {n1 : Int} {x2 : Int} {x3 : Int} {x4 : Int} {x5 : Int} {ι : bm_S}
  (h : (if bm_L 27 n0 ≤ x5 then
      (bm_rg (x4 + 1)) ∧
      bW sc 47 53 [br 5 n0, br 2 n1, bi x2, bi x3, bi (x4 + 1), bi x5] [] ι Q
    else
      (0 ≤ x5 ∧ x5 < bm_L 27 n0) ∧
      (if ι 27 n0 x5 = x4 then
        bC sc 19 [br 2 n1, bi x5, bi x2] ι (bk0 (fun ι1 => 
          (bm_rg (x5 + 1)) ∧
          bW sc 47 62 [br 5 n0, br 2 n1, bi x2, bi x4, bi x4, bi (x5 + 1)] [] ι1 Q) (bq Q))
      else
        (bm_rg (x5 + 1)) ∧
        bW sc 47 62 [br 5 n0, br 2 n1, bi x2, bi x3, bi x4, bi (x5 + 1)] [] ι Q))) :
  bW sc 47 62 [br 5 n0, br 2 n1, bi x2, bi x3, bi x4, bi x5] [] ι Q := bm_snd 47 [53, 62] 20 h
-- CW_listMarks
set_option maxRecDepth 100000 in
theorem e_CW_listMarks_0 {sc : bm_Sc} {Q : bm_O → bm_S → Prop} {n0 : Int} {ι : bm_S}
  (h : bW sc 48 4 [br 5 n0, bi 0, bi 0, bu, bu, bu, bu] [] ι Q) :
  bC sc 48 [br 5 n0] ι Q := bm_snd 48 [4, 48] 5 h
set_option maxRecDepth 100000 in
theorem e_CW_listMarks_4 {sc : bm_Sc} {Q : bm_O → bm_S → Prop} {n0 : Int} {x1 : Int} {x2 : Int} {v3 : bm_V} {v4 : bm_V} {v5 : bm_V} {v6 : bm_V} {ι : bm_S}
  (h : (if bm_L 27 n0 ≤ x2 then
      bW sc 48 48 [br 5 n0, bi x1, bi 0, bi 0, bi 0, v5, v6] [] (up ι 5 n0 10 0) Q
    else
      (0 ≤ x2 ∧ x2 < bm_L 27 n0) ∧
      (if ι 27 n0 x2 ≤ (0 : Int) then
        (bm_rg (x2 + 1)) ∧
        bW sc 48 4 [br 5 n0, bi x1, bi (x2 + 1), v3, v4, v5, v6] [] ι Q
      else
        (bm_rg (x2 + 1)) ∧
        (bm_rg (x2 + 1)) ∧
        bW sc 48 4 [br 5 n0, bi (x2 + 1), bi (x2 + 1), v3, v4, v5, v6] [] ι Q))) :
  bW sc 48 4 [br 5 n0, bi x1, bi x2, v3, v4, v5, v6] [] ι Q := bm_snd 48 [4, 48] 18 h
set_option maxRecDepth 100000 in
theorem e_CW_listMarks_48 {sc : bm_Sc} {Q : bm_O → bm_S → Prop} {n0 : Int} {x1 : Int} {x2 : Int} {x3 : Int} {x4 : Int} {v5 : bm_V} {v6 : bm_V} {ι : bm_S}
  (h : (if x1 ≤ x4 then
      Q (.inl none) ι
    else
      (if x1 ≤ x3 then
        Q (.inl none) ι
      else
        bC sc 49 [br 5 n0, bi x3] ι (bk1 (fun r1 ι1 => 
          (if r1 < (3 : Int) then
            (0 ≤ x3 ∧ x3 < bm_L 27 n0) ∧
            (0 ≤ x4 ∧ x4 < bm_L 30 n0) ∧
            (0 ≤ x4 ∧ x4 < bm_L 31 n0) ∧
            (0 ≤ x4 ∧ x4 < bm_L 31 n0) ∧
            (bm_rg (x3 + (up (up ι1 30 n0 x4 (ι1 27 n0 x3)) 31 n0 x4 1) 31 n0 x4)) ∧
            (bm_rg (ι1 5 n0 10 + 1)) ∧
            (bm_rg (x4 + 1)) ∧
            bW sc 48 48 [br 5 n0, bi x1, bi (ι1 27 n0 x3), bi (x3 + (up (up ι1 30 n0 x4 (ι1 27 n0 x3)) 31 n0 x4 1) 31 n0 x4), bi (x4 + 1), bi r1, bi 0] [] (up (up (up ι1 30 n0 x4 (ι1 27 n0 x3)) 31 n0 x4 1) 5 n0 10 (ι1 5 n0 10 + 1)) Q
          else
            (if x2 = (17 : Int) then
              (0 ≤ x3 ∧ x3 < bm_L 27 n0) ∧
              (0 ≤ x4 ∧ x4 < bm_L 30 n0) ∧
              (0 ≤ x4 ∧ x4 < bm_L 31 n0) ∧
              (0 ≤ x4 ∧ x4 < bm_L 31 n0) ∧
              (bm_rg (x3 + (up (up ι1 30 n0 x4 (ι1 27 n0 x3)) 31 n0 x4 1) 31 n0 x4)) ∧
              (bm_rg (ι1 5 n0 10 + 1)) ∧
              (bm_rg (x4 + 1)) ∧
              bW sc 48 48 [br 5 n0, bi x1, bi (ι1 27 n0 x3), bi (x3 + (up (up ι1 30 n0 x4 (ι1 27 n0 x3)) 31 n0 x4 1) 31 n0 x4), bi (x4 + 1), bi r1, bi 0] [] (up (up (up ι1 30 n0 x4 (ι1 27 n0 x3)) 31 n0 x4 1) 5 n0 10 (ι1 5 n0 10 + 1)) Q
            else
              (0 ≤ x4 ∧ x4 < bm_L 30 n0) ∧
              (0 ≤ x4 ∧ x4 < bm_L 31 n0) ∧
              (0 ≤ x4 ∧ x4 < bm_L 31 n0) ∧
              (bm_rg (x3 + (up (up ι1 30 n0 x4 17) 31 n0 x4 r1) 31 n0 x4)) ∧
              (bm_rg (ι1 5 n0 10 + 1)) ∧
              (bm_rg (x4 + 1)) ∧
              bW sc 48 48 [br 5 n0, bi x1, bi 17, bi (x3 + (up (up ι1 30 n0 x4 17) 31 n0 x4 r1) 31 n0 x4), bi (x4 + 1), bi r1, bi 1] [] (up (up (up ι1 30 n0 x4 17) 31 n0 x4 r1) 5 n0 10 (ι1 5 n0 10 + 1)) Q))) (bq Q))))) :
  bW sc 48 48 [br 5 n0, bi x1, bi x2, bi x3, bi x4, v5, v6] [] ι Q := bm_snd 48 [4, 48] 53 h
-- CW_zerosFrom
set_option maxRecDepth 100000 in
theorem e_CW_zerosFrom_0 {sc : bm_Sc} {Q : bm_O → bm_S → Prop} {n0 : Int} {x1 : Int} {ι : bm_S}
  (h : bW sc 49 4 [br 5 n0, bi x1, bi 0, bi x1] [] ι Q) :
  bC sc 49 [br 5 n0, bi x1] ι Q := bm_snd 49 [4] 5 h
set_option maxRecDepth 100000 in
theorem e_CW_zerosFrom_4 {sc : bm_Sc} {Q : bm_O → bm_S → Prop} {n0 : Int} {x1 : Int} {x2 : Int} {x3 : Int} {ι : bm_S}
  (h : (if bm_L 27 n0 ≤ x3 then
      Q (.inl (some (bi x2))) ι
    else
      (bm_rg (x1 + 10)) ∧
      (if x1 + 10 ≤ x3 then
        Q (.inl (some (bi x2))) ι
      else
        (0 ≤ x3 ∧ x3 < bm_L 27 n0) ∧
        (if ι 27 n0 x3 = (0 : Int) then
          (bm_rg (x2 + 1)) ∧
          (bm_rg (x3 + 1)) ∧
          bW sc 49 4 [br 5 n0, bi x1, bi (x2 + 1), bi (x3 + 1)] [] ι Q
        else
          Q (.inl (some (bi x2))) ι)))) :
  bW sc 49 4 [br 5 n0, bi x1, bi x2, bi x3] [] ι Q := bm_snd 49 [4] 19 h
-- CW_tellAsMarks
set_option maxRecDepth 100000 in
theorem e_CW_tellAsMarks_0 {sc : bm_Sc} {Q : bm_O → bm_S → Prop} {n0 : Int} {n1 : Int} {ι : bm_S}
  (h : bW sc 50 4 [br 5 n0, br 2 n1, bi 0, bi 0, bu, bu] [] ι Q) :
  bC sc 50 [br 5 n0, br 2 n1] ι Q := bm_snd 50 [4] 5 h
set_option maxRecDepth 100000 in
theorem e_CW_tellAsMarks_4 {sc : bm_Sc} {Q : bm_O → bm_S → Prop} {n0 : Int} {n1 : Int} {x2 : Int} {x3 : Int} {v4 : bm_V} {v5 : bm_V} {ι : bm_S}
  (h : (if (18 : Int) ≤ x3 then
      Q (.inl none) ι
    else
      (if (32 : Int) ≤ x2 then
        Q (.inl none) ι
      else
        (0 ≤ x3 ∧ x3 < (18 : Int)) ∧
        (0 ≤ bm_X sc 204 x3 ∧ bm_X sc 204 x3 < bm_L 27 n0) ∧
        (if ι 5 n0 9 = (1 : Int) then
          (0 ≤ (0 : Int) ∧ (0 : Int) < bm_L 29 n0) ∧
          (if bm_X sc 204 x3 = ι 29 n0 0 then
            (0 ≤ (1 : Int) ∧ (1 : Int) < (6 : Int)) ∧
            (0 ≤ (1 : Int) ∧ (1 : Int) < (6 : Int)) ∧
            bC sc 19 [br 2 n1, bi (bm_X sc 205 1), bi (bm_X sc 206 1)] ι (bk0 (fun ι3 => 
              (0 ≤ (1 : Int) ∧ (1 : Int) < 32) ∧
              (bm_rg (x2 + 32 / 2)) ∧
              (bm_rg (x3 + 1)) ∧
              bW sc 50 4 [br 5 n0, br 2 n1, bi (x2 + 32 / 2), bi (x3 + 1), bi (bm_X sc 204 x3), bi 1] [] ι3 Q) (bq Q))
          else
            (0 ≤ min (ι 27 n0 (bm_X sc 204 x3)) 5 ∧ min (ι 27 n0 (bm_X sc 204 x3)) 5 < (6 : Int)) ∧
            (0 ≤ min (ι 27 n0 (bm_X sc 204 x3)) 5 ∧ min (ι 27 n0 (bm_X sc 204 x3)) 5 < (6 : Int)) ∧
            bC sc 19 [br 2 n1, bi (bm_X sc 205 (min (ι 27 n0 (bm_X sc 204 x3)) 5)), bi (bm_X sc 206 (min (ι 27 n0 (bm_X sc 204 x3)) 5))] ι (bk0 (fun ι2 => 
              (if min (ι 27 n0 (bm_X sc 204 x3)) 5 ≤ (0 : Int) then
                (bm_rg (x2 + 0)) ∧
                (bm_rg (x3 + 1)) ∧
                bW sc 50 4 [br 5 n0, br 2 n1, bi (x2 + 0), bi (x3 + 1), bi (bm_X sc 204 x3), bi (min (ι 27 n0 (bm_X sc 204 x3)) 5)] [] ι2 Q
              else
                (0 ≤ min (ι 27 n0 (bm_X sc 204 x3)) 5 ∧ min (ι 27 n0 (bm_X sc 204 x3)) 5 < 32) ∧
                (bm_rg (x2 + 32 / bm_p2 (min (ι 27 n0 (bm_X sc 204 x3)) 5))) ∧
                (bm_rg (x3 + 1)) ∧
                bW sc 50 4 [br 5 n0, br 2 n1, bi (x2 + 32 / bm_p2 (min (ι 27 n0 (bm_X sc 204 x3)) 5)), bi (x3 + 1), bi (bm_X sc 204 x3), bi (min (ι 27 n0 (bm_X sc 204 x3)) 5)] [] ι2 Q)) (bq Q)))
        else
          (0 ≤ min (ι 27 n0 (bm_X sc 204 x3)) 5 ∧ min (ι 27 n0 (bm_X sc 204 x3)) 5 < (6 : Int)) ∧
          (0 ≤ min (ι 27 n0 (bm_X sc 204 x3)) 5 ∧ min (ι 27 n0 (bm_X sc 204 x3)) 5 < (6 : Int)) ∧
          bC sc 19 [br 2 n1, bi (bm_X sc 205 (min (ι 27 n0 (bm_X sc 204 x3)) 5)), bi (bm_X sc 206 (min (ι 27 n0 (bm_X sc 204 x3)) 5))] ι (bk0 (fun ι1 => 
            (if min (ι 27 n0 (bm_X sc 204 x3)) 5 ≤ (0 : Int) then
              (bm_rg (x2 + 0)) ∧
              (bm_rg (x3 + 1)) ∧
              bW sc 50 4 [br 5 n0, br 2 n1, bi (x2 + 0), bi (x3 + 1), bi (bm_X sc 204 x3), bi (min (ι 27 n0 (bm_X sc 204 x3)) 5)] [] ι1 Q
            else
              (0 ≤ min (ι 27 n0 (bm_X sc 204 x3)) 5 ∧ min (ι 27 n0 (bm_X sc 204 x3)) 5 < 32) ∧
              (bm_rg (x2 + 32 / bm_p2 (min (ι 27 n0 (bm_X sc 204 x3)) 5))) ∧
              (bm_rg (x3 + 1)) ∧
              bW sc 50 4 [br 5 n0, br 2 n1, bi (x2 + 32 / bm_p2 (min (ι 27 n0 (bm_X sc 204 x3)) 5)), bi (x3 + 1), bi (bm_X sc 204 x3), bi (min (ι 27 n0 (bm_X sc 204 x3)) 5)] [] ι1 Q)) (bq Q)))))) :
  bW sc 50 4 [br 5 n0, br 2 n1, bi x2, bi x3, v4, v5] [] ι Q := bm_snd 50 [4] 49 h
