-- B_at
set_option maxRecDepth 100000 in
theorem e_B_at_0 {sc : bm_Sc} {Q : bm_O → bm_S → Prop} {n0 : Int} {x1 : Int} {ι : bm_S}
  (h : (if x1 < (0 : Int) then
      Q (.inl (some (bi 0))) ι
    else
      (if x1 < ι 2 n0 1 then
        (0 ≤ x1 ∧ x1 < bm_L 20 n0) ∧
        Q (.inl (some (bi (ι 20 n0 x1 % 256)))) ι
      else
        Q (.inl (some (bi 0))) ι))) :
  bC sc 15 [br 2 n0, bi x1] ι Q := bm_snd 15 [] 13 h
-- B_cut
set_option maxRecDepth 100000 in
theorem e_B_cut_0 {sc : bm_Sc} {Q : bm_O → bm_S → Prop} {n0 : Int} {x1 : Int} {ι : bm_S}
  (h : (bm_rg (8 * (up ι 2 n0 1 (min (max x1 0) (ι 2 n0 1))) 2 n0 1)) ∧
    Q (.inl none) (up (up ι 2 n0 1 (min (max x1 0) (ι 2 n0 1))) 2 n0 2 (8 * (up ι 2 n0 1 (min (max x1 0) (ι 2 n0 1))) 2 n0 1))) :
  bC sc 16 [br 2 n0, bi x1] ι Q := bm_snd 16 [] 15 h
-- B_add
set_option maxRecDepth 100000 in
theorem e_B_add_0 {sc : bm_Sc} {Q : bm_O → bm_S → Prop} {n0 : Int} {x1 : Int} {ι : bm_S}
  (h : (if bm_L 20 n0 ≤ ι 2 n0 1 then
      (bm_rg (8 * ι 2 n0 1)) ∧
      Q (.inl none) (up ι 2 n0 2 (8 * ι 2 n0 1))
    else
      (bm_rg (ι 2 n0 1 + 1)) ∧
      (0 ≤ ι 2 n0 1 ∧ ι 2 n0 1 < bm_L 20 n0) ∧
      (bm_rg (8 * (up ι 2 n0 1 (ι 2 n0 1 + 1)) 2 n0 1)) ∧
      Q (.inl none) (up (up (up ι 2 n0 1 (ι 2 n0 1 + 1)) 20 n0 (ι 2 n0 1) (bm_byte (bm_byte x1))) 2 n0 2 (8 * (up ι 2 n0 1 (ι 2 n0 1 + 1)) 2 n0 1)))) :
  bC sc 17 [br 2 n0, bi x1] ι Q := bm_snd 17 [] 25 h
-- B_addNumber
set_option maxRecDepth 100000 in
theorem e_B_addNumber_0 {sc : bm_Sc} {Q : bm_O → bm_S → Prop} {n0 : Int} {x1 : Int} {ι : bm_S}
  (h : bC sc 17 [br 2 n0, bi (bm_ushr x1 24)] ι (bk0 (fun ι1 => 
      bC sc 17 [br 2 n0, bi (bm_ushr x1 16)] ι1 (bk0 (fun ι2 => 
        bC sc 17 [br 2 n0, bi (bm_ushr x1 8)] ι2 (bk0 (fun ι3 => 
          bC sc 17 [br 2 n0, bi x1] ι3 (bk0 (fun ι4 => 
            Q (.inl none) ι4) (bq Q))) (bq Q))) (bq Q))) (bq Q))) :
  bC sc 18 [br 2 n0, bi x1] ι Q := bm_snd 18 [] 19 h
-- B_addBits
set_option maxRecDepth 100000 in
theorem e_B_addBits_0 {sc : bm_Sc} {Q : bm_O → bm_S → Prop} {n0 : Int} {x1 : Int} {x2 : Int} {ι : bm_S}
  (h : bW sc 19 2 [br 2 n0, bi x1, bi x2, bi 0, bu] [] ι Q) :
  bC sc 19 [br 2 n0, bi x1, bi x2] ι Q := bm_snd 19 [2] 3 h
set_option maxRecDepth 100000 in
theorem e_B_addBits_2 {sc : bm_Sc} {Q : bm_O → bm_S → Prop} {n0 : Int} {x1 : Int} {x2 : Int} {x3 : Int} {v4 : bm_V} {ι : bm_S}
  (h : (if x2 ≤ x3 then
      Q (.inl none) ι
    else
      (bm_rg (8 * bm_L 20 n0)) ∧
      (if 8 * bm_L 20 n0 ≤ ι 2 n0 2 then
        Q (.inl none) ι
      else
        (0 ≤ (3 : Int) ∧ (3 : Int) < 32) ∧
        (if ι 2 n0 2 % 8 = (0 : Int) then
          (0 ≤ ι 2 n0 2 / 8 ∧ ι 2 n0 2 / 8 < bm_L 20 n0) ∧
          (bm_rg (ι 2 n0 2 / 8 + 1)) ∧
          (0 ≤ ι 2 n0 2 / 8 ∧ ι 2 n0 2 / 8 < bm_L 20 n0) ∧
          ((0 ≤ ι 2 n0 2 % 8 ∧ ι 2 n0 2 % 8 < 32) ∧ bm_rg (bm_ushr x1 x3 % 2 * bm_p2 (ι 2 n0 2 % 8))) ∧
          (0 ≤ ι 2 n0 2 / 8 ∧ ι 2 n0 2 / 8 < bm_L 20 n0) ∧
          (bm_rg (ι 2 n0 2 + 1)) ∧
          (bm_rg (x3 + 1)) ∧
          bW sc 19 2 [br 2 n0, bi x1, bi x2, bi (x3 + 1), bi (ι 2 n0 2 / 8)] [] (up (up (up (up ι 20 n0 (ι 2 n0 2 / 8) (bm_byte 0)) 2 n0 1 (ι 2 n0 2 / 8 + 1)) 20 n0 (ι 2 n0 2 / 8) (bm_byte (bm_byte (bm_or ((up ι 20 n0 (ι 2 n0 2 / 8) (bm_byte 0)) 20 n0 (ι 2 n0 2 / 8)) (bm_byte (bm_ushr x1 x3 % 2 * bm_p2 (ι 2 n0 2 % 8))))))) 2 n0 2 (ι 2 n0 2 + 1)) Q
        else
          (0 ≤ ι 2 n0 2 / 8 ∧ ι 2 n0 2 / 8 < bm_L 20 n0) ∧
          ((0 ≤ ι 2 n0 2 % 8 ∧ ι 2 n0 2 % 8 < 32) ∧ bm_rg (bm_ushr x1 x3 % 2 * bm_p2 (ι 2 n0 2 % 8))) ∧
          (0 ≤ ι 2 n0 2 / 8 ∧ ι 2 n0 2 / 8 < bm_L 20 n0) ∧
          (bm_rg (ι 2 n0 2 + 1)) ∧
          (bm_rg (x3 + 1)) ∧
          bW sc 19 2 [br 2 n0, bi x1, bi x2, bi (x3 + 1), bi (ι 2 n0 2 / 8)] [] (up (up ι 20 n0 (ι 2 n0 2 / 8) (bm_byte (bm_byte (bm_or (ι 20 n0 (ι 2 n0 2 / 8)) (bm_byte (bm_ushr x1 x3 % 2 * bm_p2 (ι 2 n0 2 % 8))))))) 2 n0 2 (ι 2 n0 2 + 1)) Q)))) :
  bW sc 19 2 [br 2 n0, bi x1, bi x2, bi x3, v4] [] ι Q := bm_snd 19 [2] 59 h
-- B_fillByte
set_option maxRecDepth 100000 in
theorem e_B_fillByte_0 {sc : bm_Sc} {Q : bm_O → bm_S → Prop} {n0 : Int} {ι : bm_S}
  (h : (bm_rg (8 * ι 2 n0 1)) ∧
    Q (.inl none) (up ι 2 n0 2 (8 * ι 2 n0 1))) :
  bC sc 20 [br 2 n0] ι Q := bm_snd 20 [] 7 h
-- W_manyOf
set_option maxRecDepth 100000 in
theorem e_W_manyOf_0 {sc : bm_Sc} {Q : bm_O → bm_S → Prop} {x1 : Int} {ι : bm_S}
  (h : (if x1 < (4 : Int) then
      Q (.inl (some (bi 0))) ι
    else
      (if x1 ≤ (10 : Int) then
        (0 ≤ x1 ∧ x1 < (11 : Int)) ∧
        Q (.inl (some (bi (ι 65 0 x1)))) ι
      else
        Q (.inl (some (bi 0))) ι))) :
  bC sc 109 [br 10 0, bi x1] ι Q := bm_snd 109 [] 11 h
-- W_all
set_option maxRecDepth 100000 in
theorem e_W_all_0 {sc : bm_Sc} {Q : bm_O → bm_S → Prop}  {ι : bm_S}
  (h : bW sc 110 4 [br 10 0, bi 0, bi 4] [] ι Q) :
  bC sc 110 [br 10 0] ι Q := bm_snd 110 [4] 5 h
set_option maxRecDepth 100000 in
theorem e_W_all_4 {sc : bm_Sc} {Q : bm_O → bm_S → Prop} {x1 : Int} {x2 : Int} {ι : bm_S}
  (h : (if (10 : Int) < x2 then
      Q (.inl (some (bi x1))) ι
    else
      (0 ≤ x2 ∧ x2 < (11 : Int)) ∧
      (bm_rg (x1 + ι 65 0 x2)) ∧
      (bm_rg (x2 + 1)) ∧
      bW sc 110 4 [br 10 0, bi (x1 + ι 65 0 x2), bi (x2 + 1)] [] ι Q)) :
  bW sc 110 4 [br 10 0, bi x1, bi x2] [] ι Q := bm_snd 110 [4] 13 h
-- W_forget
set_option maxRecDepth 100000 in
theorem e_W_forget_0 {sc : bm_Sc} {Q : bm_O → bm_S → Prop}  {ι : bm_S}
  (h : bC sc 260 [br 65 0, bi 0] ι (bk0 (fun ι1 => 
      Q (.inl none) ι1) (bq Q))) :
  bC sc 111 [br 10 0] ι Q := bm_snd 111 [] 5 h
-- W_add
set_option maxRecDepth 100000 in
theorem e_W_add_0 {sc : bm_Sc} {Q : bm_O → bm_S → Prop} {n1 : Int} {ι : bm_S}
  (h : bC sc 109 [br 10 0, bi (ι 2 n1 1)] ι (bk1 (fun r1 ι1 => 
      (if ι 2 n1 1 < (4 : Int) then
        Q (.inl none) ι1
      else
        (if (10 : Int) < ι 2 n1 1 then
          Q (.inl none) ι1
        else
          (if r1 < (32 : Int) then
            (bm_rg (ι 2 n1 1 - 4)) ∧
            (bm_rg ((ι 2 n1 1 - 4) * 32)) ∧
            (bm_rg ((ι 2 n1 1 - 4) * 32 + r1)) ∧
            (bm_rg (((ι 2 n1 1 - 4) * 32 + r1) * 10)) ∧
            bW sc 112 45 [br 10 0, br 2 n1, bi (ι 2 n1 1), bi r1, bi (((ι 2 n1 1 - 4) * 32 + r1) * 10), bi 0] [] ι1 Q
          else
            Q (.inl none) ι1)))) (bq Q))) :
  bC sc 112 [br 10 0, br 2 n1] ι Q := bm_snd 112 [45] 29 h
set_option maxRecDepth 100000 in
theorem e_W_add_45 {sc : bm_Sc} {Q : bm_O → bm_S → Prop} {n1 : Int} {x2 : Int} {v3 : bm_V} {x4 : Int} {x5 : Int} {ι : bm_S}
  (h : (if x2 ≤ x5 then
      (0 ≤ x2 ∧ x2 < (11 : Int)) ∧
      (bm_rg (ι 65 0 x2 + 1)) ∧
      (0 ≤ x2 ∧ x2 < (11 : Int)) ∧
      Q (.inl none) (up ι 65 0 x2 (ι 65 0 x2 + 1))
    else
      (bm_rg (x4 + x5)) ∧
      bC sc 15 [br 2 n1, bi x5] ι (bk1 (fun r1 ι1 => 
        (0 ≤ x4 + x5 ∧ x4 + x5 < (2240 : Int)) ∧
        (bm_rg (x5 + 1)) ∧
        bW sc 112 45 [br 10 0, br 2 n1, bi x2, v3, bi x4, bi (x5 + 1)] [] (up ι1 64 0 (x4 + x5) (bm_byte (bm_byte r1))) Q) (bq Q)))) :
  bW sc 112 45 [br 10 0, br 2 n1, bi x2, v3, bi x4, bi x5] [] ι Q := bm_snd 112 [45] 16 h
-- W_bitsFor
set_option maxRecDepth 100000 in
theorem e_W_bitsFor_0 {sc : bm_Sc} {Q : bm_O → bm_S → Prop} {x1 : Int} {ι : bm_S}
  (h : bW sc 113 4 [br 10 0, bi x1, bi 0, bi 0] [] ι Q) :
  bC sc 113 [br 10 0, bi x1] ι Q := bm_snd 113 [4] 5 h
set_option maxRecDepth 100000 in
theorem e_W_bitsFor_4 {sc : bm_Sc} {Q : bm_O → bm_S → Prop} {x1 : Int} {x2 : Int} {x3 : Int} {ι : bm_S}
  (h : (if (5 : Int) ≤ x3 then
      Q (.inl (some (bi x2))) ι
    else
      ((0 ≤ x2 ∧ x2 < 32) ∧ bm_rg (1 * bm_p2 x2)) ∧
      bC sc 109 [br 10 0, bi x1] ι (bk1 (fun r1 ι1 => 
        (if r1 ≤ 1 * bm_p2 x2 then
          (bm_rg (x3 + 1)) ∧
          bW sc 113 4 [br 10 0, bi x1, bi x2, bi (x3 + 1)] [] ι1 Q
        else
          (bm_rg (x2 + 1)) ∧
          (bm_rg (x3 + 1)) ∧
          bW sc 113 4 [br 10 0, bi x1, bi (x2 + 1), bi (x3 + 1)] [] ι1 Q)) (bq Q)))) :
  bW sc 113 4 [br 10 0, bi x1, bi x2, bi x3] [] ι Q := bm_snd 113 [4] 14 h
-- W_digestOfAll
set_option maxRecDepth 100000 in
theorem e_W_digestOfAll_0 {sc : bm_Sc} {Q : bm_O → bm_S → Prop}  {ι : bm_S}
  (h : bW sc 114 6 [br 10 0, bi 5381, bi 4, bu, bu] [] ι Q) :
  bC sc 114 [br 10 0] ι Q := bm_snd 114 [6, 29, 42] 5 h
set_option maxRecDepth 100000 in
theorem e_W_digestOfAll_6 {sc : bm_Sc} {Q : bm_O → bm_S → Prop} {x1 : Int} {x2 : Int} {v3 : bm_V} {v4 : bm_V} {ι : bm_S}
  (h : (if (10 : Int) < x2 then
      Q (.inl (some (bi x1))) ι
    else
      (bm_rg (33 * x1)) ∧
      (0 ≤ x2 ∧ x2 < (11 : Int)) ∧
      bW sc 114 29 [br 10 0, bi (bm_xor (33 * x1) (ι 65 0 x2) % 65536), bi x2, bi 0, v4] [] ι Q)) :
  bW sc 114 6 [br 10 0, bi x1, bi x2, v3, v4] [] ι Q := bm_snd 114 [6, 29, 42] 17 h
set_option maxRecDepth 100000 in
theorem e_W_digestOfAll_29 {sc : bm_Sc} {Q : bm_O → bm_S → Prop} {x1 : Int} {x2 : Int} {x3 : Int} {v4 : bm_V} {ι : bm_S}
  (h : (0 ≤ x2 ∧ x2 < (11 : Int)) ∧
    (if ι 65 0 x2 ≤ x3 then
      (bm_rg (x2 + 1)) ∧
      bW sc 114 6 [br 10 0, bi x1, bi (x2 + 1), bi x3, v4] [] ι Q
    else
      bW sc 114 42 [br 10 0, bi x1, bi x2, bi x3, bi 0] [] ι Q)) :
  bW sc 114 29 [br 10 0, bi x1, bi x2, bi x3, v4] [] ι Q := bm_snd 114 [6, 29, 42] 9 h
set_option maxRecDepth 100000 in
theorem e_W_digestOfAll_42 {sc : bm_Sc} {Q : bm_O → bm_S → Prop} {x1 : Int} {x2 : Int} {x3 : Int} {x4 : Int} {ι : bm_S}
  (h : (if x2 ≤ x4 then
      (bm_rg (x3 + 1)) ∧
      bW sc 114 29 [br 10 0, bi x1, bi x2, bi (x3 + 1), bi x4] [] ι Q
    else
      (bm_rg (33 * x1)) ∧
      bC sc 116 [br 10 0, bi x2, bi x3, bi 0, bi x4] ι (bk1 (fun r1 ι1 => 
        (bm_rg (x4 + 1)) ∧
        bW sc 114 42 [br 10 0, bi (bm_xor (33 * x1) r1 % 65536), bi x2, bi x3, bi (x4 + 1)] [] ι1 Q) (bq Q)))) :
  bW sc 114 42 [br 10 0, bi x1, bi x2, bi x3, bi x4] [] ι Q := bm_snd 114 [6, 29, 42] 19 h
-- W_coreSize
set_option maxRecDepth 100000 in
theorem e_W_coreSize_0 {sc : bm_Sc} {Q : bm_O → bm_S → Prop} {x0 : Int} {x1 : Int} {ι : bm_S}
  (h : (if (3 : Int) ≤ x1 then
      (if x1 = (5 : Int) then
        (bm_rg (x0 - 2)) ∧
        Q (.inl (some (bi (x0 - 2)))) ι
      else
        (bm_rg (x0 - 1)) ∧
        Q (.inl (some (bi (x0 - 1)))) ι)
    else
      Q (.inl (some (bi x0))) ι)) :
  bC sc 115 [bi x0, bi x1] ι Q := bm_snd 115 [] 11 h
-- W_coreByte
set_option maxRecDepth 100000 in
theorem e_W_coreByte_0 {sc : bm_Sc} {Q : bm_O → bm_S → Prop} {x1 : Int} {x2 : Int} {x3 : Int} {x4 : Int} {ι : bm_S}
  (h : (bm_rg (x1 - 4)) ∧
    (bm_rg ((x1 - 4) * 32)) ∧
    (bm_rg ((x1 - 4) * 32 + x2)) ∧
    (bm_rg (((x1 - 4) * 32 + x2) * 10)) ∧
    (bm_rg (((x1 - 4) * 32 + x2) * 10 + x4)) ∧
    (if x3 = (3 : Int) then
      (bm_rg (((x1 - 4) * 32 + x2) * 10 + x4 + 1)) ∧
      bW sc 116 24 [br 10 0, bi x1, bi x2, bi x3, bi x4, bi (((x1 - 4) * 32 + x2) * 10 + x4 + 1), bu, bu] [] ι Q
    else
      bW sc 116 24 [br 10 0, bi x1, bi x2, bi x3, bi x4, bi (((x1 - 4) * 32 + x2) * 10 + x4), bu, bu] [] ι Q)) :
  bC sc 116 [br 10 0, bi x1, bi x2, bi x3, bi x4] ι Q := bm_snd 116 [24, 39] 17 h
set_option maxRecDepth 100000 in
theorem e_W_coreByte_24 {sc : bm_Sc} {Q : bm_O → bm_S → Prop} {v1 : bm_V} {v2 : bm_V} {x3 : Int} {x4 : Int} {x5 : Int} {v6 : bm_V} {v7 : bm_V} {ι : bm_S}
  (h : (if x5 < (0 : Int) then
      bW sc 116 39 [br 10 0, v1, v2, bi x3, bi x4, bi x5, v6, v7] [] ι Q
    else
      (if x5 < (2240 : Int) then
        (0 ≤ x5 ∧ x5 < (2240 : Int)) ∧
        (if x3 = (2 : Int) then
          (if ι 64 0 x5 % 256 < (97 : Int) then
            Q (.inl (some (bi (ι 64 0 x5 % 256)))) ι
          else
            (if (122 : Int) < ι 64 0 x5 % 256 then
              Q (.inl (some (bi (ι 64 0 x5 % 256)))) ι
            else
              (bm_rg (ι 64 0 x5 % 256 - 32)) ∧
              Q (.inl (some (bi (ι 64 0 x5 % 256 - 32)))) ι))
        else
          (if x3 = (1 : Int) then
            (if x4 = (0 : Int) then
              (if ι 64 0 x5 % 256 < (97 : Int) then
                Q (.inl (some (bi (ι 64 0 x5 % 256)))) ι
              else
                (if (122 : Int) < ι 64 0 x5 % 256 then
                  Q (.inl (some (bi (ι 64 0 x5 % 256)))) ι
                else
                  (bm_rg (ι 64 0 x5 % 256 - 32)) ∧
                  Q (.inl (some (bi (ι 64 0 x5 % 256 - 32)))) ι))
            else
              Q (.inl (some (bi (ι 64 0 x5 % 256)))) ι)
          else
            Q (.inl (some (bi (ι 64 0 x5 % 256)))) ι))
      else
        bW sc 116 39 [br 10 0, v1, v2, bi x3, bi x4, bi x5, v6, v7] [] ι Q))) :
  bW sc 116 24 [br 10 0, v1, v2, bi x3, bi x4, bi x5, v6, v7] [] ι Q := bm_snd 116 [24, 39] 38 h
set_option maxRecDepth 100000 in
theorem e_W_coreByte_39 {sc : bm_Sc} {Q : bm_O → bm_S → Prop} {v0 : bm_V} {v1 : bm_V} {v2 : bm_V} {x3 : Int} {x4 : Int} {v5 : bm_V} {v6 : bm_V} {v7 : bm_V} {ι : bm_S}
  (h : (if x3 = (2 : Int) then
      Q (.inl (some (bi 0))) ι
    else
      (if x3 = (1 : Int) then
        (if x4 = (0 : Int) then
          Q (.inl (some (bi 0))) ι
        else
          Q (.inl (some (bi 0))) ι)
      else
        Q (.inl (some (bi 0))) ι))) :
  bW sc 116 39 [v0, v1, v2, bi x3, bi x4, v5, v6, v7] [] ι Q := bm_snd 116 [24, 39] 21 h
-- W_aroundSize
set_option maxRecDepth 100000 in
theorem e_W_aroundSize_0 {sc : bm_Sc} {Q : bm_O → bm_S → Prop} {x0 : Int} {ι : bm_S}
  (h : (if x0 = (3 : Int) then
      Q (.inl (some (bi 2))) ι
    else
      Q (.inl (some (bi (min x0 1)))) ι)) :
  bC sc 117 [bi x0] ι Q := bm_snd 117 [] 7 h
-- W_changedSize
set_option maxRecDepth 100000 in
theorem e_W_changedSize_0 {sc : bm_Sc} {Q : bm_O → bm_S → Prop} {x0 : Int} {x1 : Int} {ι : bm_S}
  (h : (0 ≤ x1 ∧ 0 < (6 : Int)) ∧
    bC sc 115 [bi x0, bi (x1 % 6)] ι (bk1 (fun r1 ι1 => 
      (0 ≤ x1 ∧ 0 < (6 : Int)) ∧
      bC sc 117 [bi (x1 / 6)] ι1 (bk1 (fun r2 ι2 => 
        (bm_rg (r1 + r2)) ∧
        Q (.inl (some (bi (r1 + r2)))) ι2) (bq Q))) (bq Q))) :
  bC sc 118 [bi x0, bi x1] ι Q := bm_snd 118 [] 11 h
-- W_changedByte
set_option maxRecDepth 100000 in
theorem e_W_changedByte_0 {sc : bm_Sc} {Q : bm_O → bm_S → Prop} {x1 : Int} {x2 : Int} {x3 : Int} {x4 : Int} {ι : bm_S}
  (h : (0 ≤ x3 ∧ 0 < (6 : Int)) ∧
    (0 ≤ x3 ∧ 0 < (6 : Int)) ∧
    bC sc 115 [bi x1, bi (x3 % 6)] ι (bk1 (fun r1 ι1 => 
      (if x3 / 6 = (2 : Int) then
        (bm_rg (x4 - 1)) ∧
        (if x4 - 1 < (0 : Int) then
          (if x3 / 6 = (3 : Int) then
            (if x4 - 1 = r1 then
              Q (.inl (some (bi 44))) ι1
            else
              Q (.inl (some (bi 32))) ι1)
          else
            Q (.inl (some (bi 32))) ι1)
        else
          (if r1 ≤ x4 - 1 then
            (if x3 / 6 = (3 : Int) then
              (if x4 - 1 = r1 then
                Q (.inl (some (bi 44))) ι1
              else
                Q (.inl (some (bi 32))) ι1)
            else
              Q (.inl (some (bi 32))) ι1)
          else
            bC sc 116 [br 10 0, bi x1, bi x2, bi (x3 % 6), bi (x4 - 1)] ι1 (bk1 (fun r3 ι3 => 
              Q (.inl (some (bi r3))) ι3) (bq Q))))
      else
        (if x4 < (0 : Int) then
          (if x3 / 6 = (3 : Int) then
            (if x4 = r1 then
              Q (.inl (some (bi 44))) ι1
            else
              Q (.inl (some (bi 32))) ι1)
          else
            Q (.inl (some (bi 32))) ι1)
        else
          (if r1 ≤ x4 then
            (if x3 / 6 = (3 : Int) then
              (if x4 = r1 then
                Q (.inl (some (bi 44))) ι1
              else
                Q (.inl (some (bi 32))) ι1)
            else
              Q (.inl (some (bi 32))) ι1)
          else
            bC sc 116 [br 10 0, bi x1, bi x2, bi (x3 % 6), bi x4] ι1 (bk1 (fun r2 ι2 => 
              Q (.inl (some (bi r2))) ι2) (bq Q)))))) (bq Q))) :
  bC sc 119 [br 10 0, bi x1, bi x2, bi x3, bi x4] ι Q := bm_snd 119 [] 34 h
-- R_start
set_option maxRecDepth 100000 in
theorem e_R_start_0 {sc : bm_Sc} {Q : bm_O → bm_S → Prop}  {ι : bm_S}
  (h : (bm_rg (8 * ι 2 0 1)) ∧
    Q (.inl none) (up (up (up ι 0 0 1 0) 0 0 2 (8 * ι 2 0 1)) 0 0 3 0)) :
  bC sc 1 [br 0 0] ι Q := bm_snd 1 [] 14 h
-- R_fine
set_option maxRecDepth 100000 in
theorem e_R_fine_0 {sc : bm_Sc} {Q : bm_O → bm_S → Prop}  {ι : bm_S}
  (h : (if ι 0 0 3 = (0 : Int) then
      ((1 : Int) = 0 ∨ (1 : Int) = 1) ∧
      Q (.inl (some (bi 1))) ι
    else
      ((0 : Int) = 0 ∨ (0 : Int) = 1) ∧
      Q (.inl (some (bi 0))) ι)) :
  bC sc 2 [br 0 0] ι Q := bm_snd 2 [] 6 h
-- R_broken
set_option maxRecDepth 100000 in
theorem e_R_broken_0 {sc : bm_Sc} {Q : bm_O → bm_S → Prop} {x1 : Int} {ι : bm_S}
  (h : (if ι 0 0 3 = (0 : Int) then
      Q (.inl none) (up ι 0 0 3 x1)
    else
      Q (.inl none) ι)) :
  bC sc 3 [br 0 0, bi x1] ι Q := bm_snd 3 [] 7 h
-- R_number
set_option maxRecDepth 100000 in
theorem e_R_number_0 {sc : bm_Sc} {Q : bm_O → bm_S → Prop} {x1 : Int} {ι : bm_S}
  (h : (if ι 0 0 3 = (0 : Int) then
      (bm_rg (ι 0 0 2 - ι 0 0 1)) ∧
      (if x1 ≤ ι 0 0 2 - ι 0 0 1 then
        bW sc 4 41 [br 0 0, bi x1, bi 0, bi 0] [] ι Q
      else
        Q (.inl (some (bi 0))) (up (up ι 0 0 1 (ι 0 0 2)) 0 0 3 1))
    else
      Q (.inl (some (bi 0))) ι)) :
  bC sc 4 [br 0 0, bi x1] ι Q := bm_snd 4 [41] 19 h
set_option maxRecDepth 100000 in
theorem e_R_number_41 {sc : bm_Sc} {Q : bm_O → bm_S → Prop} {x1 : Int} {x2 : Int} {x3 : Int} {ι : bm_S}
  (h : (if x1 ≤ x3 then
      Q (.inl (some (bi x2))) ι
    else
      (0 ≤ (3 : Int) ∧ (3 : Int) < 32) ∧
      (0 ≤ ι 0 0 1 / 8 ∧ ι 0 0 1 / 8 < (2400 : Int)) ∧
      (0 ≤ ι 0 0 1 % 8 ∧ ι 0 0 1 % 8 < 32) ∧
      ((0 ≤ x3 ∧ x3 < 32) ∧ bm_rg (ι 20 0 (ι 0 0 1 / 8) / bm_p2 (ι 0 0 1 % 8) % 2 * bm_p2 x3)) ∧
      (bm_rg (x3 + 1)) ∧
      (bm_rg (ι 0 0 1 + 1)) ∧
      bW sc 4 41 [br 0 0, bi x1, bi (bm_or x2 (ι 20 0 (ι 0 0 1 / 8) / bm_p2 (ι 0 0 1 % 8) % 2 * bm_p2 x3)), bi (x3 + 1)] [] (up ι 0 0 1 (ι 0 0 1 + 1)) Q)) :
  bW sc 4 41 [br 0 0, bi x1, bi x2, bi x3] [] ι Q := bm_snd 4 [41] 32 h
-- R_signOf
set_option maxRecDepth 100000 in
theorem e_R_signOf_0 {sc : bm_Sc} {Q : bm_O → bm_S → Prop} {n1 : Int} {ι : bm_S}
  (h : (if ι 0 0 3 = (0 : Int) then
      (if (2 : Int) ≤ ι 3 n1 2 then
        bW sc 5 40 [br 0 0, br 3 n1, bi 0, bi 0, bi 1] [] ι Q
      else
        (if ι 0 0 3 = (0 : Int) then
          (0 ≤ (0 : Int) ∧ (0 : Int) < bm_L 22 n1) ∧
          Q (.inl (some (bi (ι 22 n1 0)))) ι
        else
          Q (.inl (some (bi 0))) ι))
    else
      (if ι 0 0 3 = (0 : Int) then
        (0 ≤ (0 : Int) ∧ (0 : Int) < bm_L 22 n1) ∧
        Q (.inl (some (bi (ι 22 n1 0)))) ι
      else
        Q (.inl (some (bi 0))) ι))) :
  bC sc 5 [br 0 0, br 3 n1] ι Q := bm_snd 5 [40] 15 h
set_option maxRecDepth 100000 in
theorem e_R_signOf_40 {sc : bm_Sc} {Q : bm_O → bm_S → Prop} {n1 : Int} {x2 : Int} {x3 : Int} {x4 : Int} {ι : bm_S}
  (h : (if (15 : Int) < x4 then
      Q (.inl (some (bi 0))) (up ι 0 0 3 1)
    else
      (if ι 0 0 2 ≤ ι 0 0 1 then
        Q (.inl (some (bi 0))) (up ι 0 0 3 1)
      else
        (bm_rg (2 * x2)) ∧
        (0 ≤ (3 : Int) ∧ (3 : Int) < 32) ∧
        (0 ≤ ι 0 0 1 / 8 ∧ ι 0 0 1 / 8 < (2400 : Int)) ∧
        (0 ≤ ι 0 0 1 % 8 ∧ ι 0 0 1 % 8 < 32) ∧
        (bm_rg (2 * x2 + ι 20 0 (ι 0 0 1 / 8) / bm_p2 (ι 0 0 1 % 8) % 2)) ∧
        (0 ≤ x4 ∧ x4 < (16 : Int)) ∧
        (if ι 21 n1 x4 ≤ 2 * x2 + ι 20 0 (ι 0 0 1 / 8) / bm_p2 (ι 0 0 1 % 8) % 2 then
          (0 ≤ x4 ∧ x4 < (16 : Int)) ∧
          (bm_rg (x3 + ι 21 n1 x4)) ∧
          (0 ≤ x4 ∧ x4 < (16 : Int)) ∧
          (bm_rg (2 * x2 + ι 20 0 (ι 0 0 1 / 8) / bm_p2 (ι 0 0 1 % 8) % 2 - ι 21 n1 x4)) ∧
          (bm_rg (x4 + 1)) ∧
          (bm_rg (ι 0 0 1 + 1)) ∧
          bW sc 5 40 [br 0 0, br 3 n1, bi (2 * x2 + ι 20 0 (ι 0 0 1 / 8) / bm_p2 (ι 0 0 1 % 8) % 2 - ι 21 n1 x4), bi (x3 + ι 21 n1 x4), bi (x4 + 1)] [] (up ι 0 0 1 (ι 0 0 1 + 1)) Q
        else
          (bm_rg (x3 + (2 * x2 + ι 20 0 (ι 0 0 1 / 8) / bm_p2 (ι 0 0 1 % 8) % 2))) ∧
          (if ι 3 n1 2 ≤ x3 + (2 * x2 + ι 20 0 (ι 0 0 1 / 8) / bm_p2 (ι 0 0 1 % 8) % 2) then
            (0 ≤ x4 ∧ x4 < (16 : Int)) ∧
            (bm_rg (x3 + ι 21 n1 x4)) ∧
            (0 ≤ x4 ∧ x4 < (16 : Int)) ∧
            (bm_rg (2 * x2 + ι 20 0 (ι 0 0 1 / 8) / bm_p2 (ι 0 0 1 % 8) % 2 - ι 21 n1 x4)) ∧
            (bm_rg (x4 + 1)) ∧
            (bm_rg (ι 0 0 1 + 1)) ∧
            bW sc 5 40 [br 0 0, br 3 n1, bi (2 * x2 + ι 20 0 (ι 0 0 1 / 8) / bm_p2 (ι 0 0 1 % 8) % 2 - ι 21 n1 x4), bi (x3 + ι 21 n1 x4), bi (x4 + 1)] [] (up ι 0 0 1 (ι 0 0 1 + 1)) Q
          else
            (bm_rg (ι 0 0 1 + 1)) ∧
            (bm_rg (x3 + (2 * x2 + ι 20 0 (ι 0 0 1 / 8) / bm_p2 (ι 0 0 1 % 8) % 2))) ∧
            (0 ≤ x3 + (2 * x2 + ι 20 0 (ι 0 0 1 / 8) / bm_p2 (ι 0 0 1 % 8) % 2) ∧ x3 + (2 * x2 + ι 20 0 (ι 0 0 1 / 8) / bm_p2 (ι 0 0 1 % 8) % 2) < bm_L 22 n1) ∧
            Q (.inl (some (bi (ι 22 n1 (x3 + (2 * x2 + ι 20 0 (ι 0 0 1 / 8) / bm_p2 (ι 0 0 1 % 8) % 2)))))) (up ι 0 0 1 (ι 0 0 1 + 1))))))) :
  bW sc 5 40 [br 0 0, br 3 n1, bi x2, bi x3, bi x4] [] ι Q := bm_snd 5 [40] 63 h
-- R_toWholeByte
set_option maxRecDepth 100000 in
theorem e_R_toWholeByte_0 {sc : bm_Sc} {Q : bm_O → bm_S → Prop}  {ι : bm_S}
  (h : (bm_rg ((-ι 0 0 1))) ∧
    bC sc 4 [br 0 0, bi ((-ι 0 0 1) % 8)] ι (bk1 (fun r1 ι1 => 
      (if r1 = (0 : Int) then
        Q (.inl none) ι1
      else
        bC sc 3 [br 0 0, bi 6] ι1 (bk0 (fun ι2 => 
          Q (.inl none) ι2) (bq Q)))) (bq Q))) :
  bC sc 6 [br 0 0] ι Q := bm_snd 6 [] 12 h
-- R_passOver
set_option maxRecDepth 100000 in
theorem e_R_passOver_0 {sc : bm_Sc} {Q : bm_O → bm_S → Prop} {x1 : Int} {ι : bm_S}
  (h : (if ι 0 0 3 = (0 : Int) then
      (bm_rg (ι 0 0 2 - ι 0 0 1)) ∧
      (0 ≤ (3 : Int) ∧ (3 : Int) < 32) ∧
      (if x1 ≤ (ι 0 0 2 - ι 0 0 1) / 8 then
        (bm_rg (8 * x1)) ∧
        (bm_rg (ι 0 0 1 + 8 * x1)) ∧
        Q (.inl none) (up ι 0 0 1 (ι 0 0 1 + 8 * x1))
      else
        Q (.inl none) (up (up ι 0 0 1 (ι 0 0 2)) 0 0 3 1))
    else
      Q (.inl none) ι)) :
  bC sc 7 [br 0 0, bi x1] ι Q := bm_snd 7 [] 21 h
-- R_copyTo
set_option maxRecDepth 100000 in
theorem e_R_copyTo_0 {sc : bm_Sc} {Q : bm_O → bm_S → Prop} {n1 : Int} {x2 : Int} {ι : bm_S}
  (h : (0 ≤ (3 : Int) ∧ (3 : Int) < 32) ∧
    bC sc 7 [br 0 0, bi x2] ι (bk0 (fun ι1 => 
      (if ι1 0 0 3 = (0 : Int) then
        bW sc 8 23 [br 0 0, br 2 n1, bi x2, bi (ι 0 0 1 / 8), bi 0] [] ι1 Q
      else
        Q (.inl none) ι1)) (bq Q))) :
  bC sc 8 [br 0 0, br 2 n1, bi x2] ι Q := bm_snd 8 [23] 14 h
set_option maxRecDepth 100000 in
theorem e_R_copyTo_23 {sc : bm_Sc} {Q : bm_O → bm_S → Prop} {n1 : Int} {x2 : Int} {x3 : Int} {x4 : Int} {ι : bm_S}
  (h : (if x2 ≤ x4 then
      Q (.inl none) ι
    else
      (bm_rg (x3 + x4)) ∧
      bC sc 15 [br 2 0, bi (x3 + x4)] ι (bk1 (fun r1 ι1 => 
        bC sc 17 [br 2 n1, bi r1] ι1 (bk0 (fun ι2 => 
          (bm_rg (x4 + 1)) ∧
          bW sc 8 23 [br 0 0, br 2 n1, bi x2, bi x3, bi (x4 + 1)] [] ι2 Q) (bq Q))) (bq Q)))) :
  bW sc 8 23 [br 0 0, br 2 n1, bi x2, bi x3, bi x4] [] ι Q := bm_snd 8 [23] 14 h
-- C_setLone
set_option maxRecDepth 100000 in
theorem e_C_setLone_0 {sc : bm_Sc} {Q : bm_O → bm_S → Prop} {n0 : Int} {x1 : Int} {ι : bm_S}
  (h : bC sc 260 [br 21 n0, bi 0] ι (bk0 (fun ι1 => 
      (0 ≤ (0 : Int) ∧ (0 : Int) < bm_L 22 n0) ∧
      Q (.inl none) (up (up ι1 22 n0 0 x1) 3 n0 2 1)) (bq Q))) :
  bC sc 22 [br 3 n0, bi x1] ι Q := bm_snd 22 [] 13 h
-- C_build
set_option maxRecDepth 100000 in
theorem e_C_build_23_0 {sc : bm_Sc} {Q : bm_O → bm_S → Prop} {n0 : Int} {x2 : Int} {ι : bm_S}
  (h : bC sc 260 [br 21 n0, bi 0] ι (bk0 (fun ι1 => 
      bW sc 23 26 [br 3 n0, br 23 0, bi x2, bi (min x2 (min (bm_L 22 n0) 704)), bi 0, bu, bu] [] ι1 Q) (bq Q))) :
  bC sc 23 [br 3 n0, br 23 0, bi x2] ι Q := bm_snd 23 [26, 69, 93] 16 h
set_option maxRecDepth 100000 in
theorem e_C_build_23_26 {sc : bm_Sc} {Q : bm_O → bm_S → Prop} {n0 : Int} {v2 : bm_V} {x3 : Int} {x4 : Int} {v5 : bm_V} {v6 : bm_V} {ι : bm_S}
  (h : (if x3 ≤ x4 then
      (0 ≤ (0 : Int) ∧ (0 : Int) < (16 : Int)) ∧
      bW sc 23 69 [br 3 n0, br 23 0, v2, bi x3, bi 1, v5, v6] [] (up (up ι 21 n0 0 0) 3 n0 2 0) Q
    else
      (0 ≤ x4 ∧ x4 < (704 : Int)) ∧
      (0 ≤ ι 23 0 x4 % 16 ∧ ι 23 0 x4 % 16 < (16 : Int)) ∧
      (bm_rg (ι 21 n0 (ι 23 0 x4 % 16) + 1)) ∧
      (0 ≤ ι 23 0 x4 % 16 ∧ ι 23 0 x4 % 16 < (16 : Int)) ∧
      (bm_rg (x4 + 1)) ∧
      bW sc 23 26 [br 3 n0, br 23 0, v2, bi x3, bi (x4 + 1), v5, v6] [] (up ι 21 n0 (ι 23 0 x4 % 16) (ι 21 n0 (ι 23 0 x4 % 16) + 1)) Q)) :
  bW sc 23 26 [br 3 n0, br 23 0, v2, bi x3, bi x4, v5, v6] [] ι Q := bm_snd 23 [26, 69, 93] 18 h
set_option maxRecDepth 100000 in
theorem e_C_build_23_69 {sc : bm_Sc} {Q : bm_O → bm_S → Prop} {n0 : Int} {v2 : bm_V} {x3 : Int} {x4 : Int} {v5 : bm_V} {v6 : bm_V} {ι : bm_S}
  (h : (if (15 : Int) < x4 then
      Q (.inl none) ι
    else
      (0 ≤ x4 ∧ x4 < (16 : Int)) ∧
      (bm_rg (ι 3 n0 2 + ι 21 n0 x4)) ∧
      bW sc 23 93 [br 3 n0, br 23 0, v2, bi x3, bi x4, bi (ι 3 n0 2 + ι 21 n0 x4), bi 0] [] ι Q)) :
  bW sc 23 69 [br 3 n0, br 23 0, v2, bi x3, bi x4, v5, v6] [] ι Q := bm_snd 23 [26, 69, 93] 14 h
set_option maxRecDepth 100000 in
theorem e_C_build_23_93 {sc : bm_Sc} {Q : bm_O → bm_S → Prop} {n0 : Int} {v2 : bm_V} {x3 : Int} {x4 : Int} {x5 : Int} {x6 : Int} {ι : bm_S}
  (h : (if x3 ≤ x6 then
      (bm_rg (x4 + 1)) ∧
      bW sc 23 69 [br 3 n0, br 23 0, v2, bi x3, bi (x4 + 1), bi x5, bi x6] [] ι Q
    else
      (if x5 ≤ ι 3 n0 2 then
        (bm_rg (x4 + 1)) ∧
        bW sc 23 69 [br 3 n0, br 23 0, v2, bi x3, bi (x4 + 1), bi x5, bi x6] [] ι Q
      else
        (0 ≤ x6 ∧ x6 < (704 : Int)) ∧
        (if ι 23 0 x6 = x4 then
          (bm_rg (ι 3 n0 2 + 1)) ∧
          (0 ≤ ι 3 n0 2 ∧ ι 3 n0 2 < bm_L 22 n0) ∧
          (bm_rg (x6 + 1)) ∧
          bW sc 23 93 [br 3 n0, br 23 0, v2, bi x3, bi x4, bi x5, bi (x6 + 1)] [] (up (up ι 3 n0 2 (ι 3 n0 2 + 1)) 22 n0 (ι 3 n0 2) x6) Q
        else
          (bm_rg (x6 + 1)) ∧
          bW sc 23 93 [br 3 n0, br 23 0, v2, bi x3, bi x4, bi x5, bi (x6 + 1)] [] ι Q)))) :
  bW sc 23 93 [br 3 n0, br 23 0, v2, bi x3, bi x4, bi x5, bi x6] [] ι Q := bm_snd 23 [26, 69, 93] 26 h
set_option maxRecDepth 100000 in
theorem e_C_build_24_0 {sc : bm_Sc} {Q : bm_O → bm_S → Prop} {n0 : Int} {x2 : Int} {ι : bm_S}
  (h : bC sc 260 [br 21 n0, bi 0] ι (bk0 (fun ι1 => 
      bW sc 23 26 [br 3 n0, br 24 0, bi x2, bi (min x2 (min (bm_L 22 n0) 18)), bi 0, bu, bu] [] ι1 Q) (bq Q))) :
  bC sc 23 [br 3 n0, br 24 0, bi x2] ι Q := bm_snd 23 [26, 69, 93] 16 h
set_option maxRecDepth 100000 in
theorem e_C_build_24_26 {sc : bm_Sc} {Q : bm_O → bm_S → Prop} {n0 : Int} {v2 : bm_V} {x3 : Int} {x4 : Int} {v5 : bm_V} {v6 : bm_V} {ι : bm_S}
  (h : (if x3 ≤ x4 then
      (0 ≤ (0 : Int) ∧ (0 : Int) < (16 : Int)) ∧
      bW sc 23 69 [br 3 n0, br 24 0, v2, bi x3, bi 1, v5, v6] [] (up (up ι 21 n0 0 0) 3 n0 2 0) Q
    else
      (0 ≤ x4 ∧ x4 < (18 : Int)) ∧
      (0 ≤ ι 24 0 x4 % 16 ∧ ι 24 0 x4 % 16 < (16 : Int)) ∧
      (bm_rg (ι 21 n0 (ι 24 0 x4 % 16) + 1)) ∧
      (0 ≤ ι 24 0 x4 % 16 ∧ ι 24 0 x4 % 16 < (16 : Int)) ∧
      (bm_rg (x4 + 1)) ∧
      bW sc 23 26 [br 3 n0, br 24 0, v2, bi x3, bi (x4 + 1), v5, v6] [] (up ι 21 n0 (ι 24 0 x4 % 16) (ι 21 n0 (ι 24 0 x4 % 16) + 1)) Q)) :
  bW sc 23 26 [br 3 n0, br 24 0, v2, bi x3, bi x4, v5, v6] [] ι Q := bm_snd 23 [26, 69, 93] 18 h
set_option maxRecDepth 100000 in
theorem e_C_build_24_69 {sc : bm_Sc} {Q : bm_O → bm_S → Prop} {n0 : Int} {v2 : bm_V} {x3 : Int} {x4 : Int} {v5 : bm_V} {v6 : bm_V} {ι : bm_S}
  (h : (if (15 : Int) < x4 then
      Q (.inl none) ι
    else
      (0 ≤ x4 ∧ x4 < (16 : Int)) ∧
      (bm_rg (ι 3 n0 2 + ι 21 n0 x4)) ∧
      bW sc 23 93 [br 3 n0, br 24 0, v2, bi x3, bi x4, bi (ι 3 n0 2 + ι 21 n0 x4), bi 0] [] ι Q)) :
  bW sc 23 69 [br 3 n0, br 24 0, v2, bi x3, bi x4, v5, v6] [] ι Q := bm_snd 23 [26, 69, 93] 14 h
set_option maxRecDepth 100000 in
theorem e_C_build_24_93 {sc : bm_Sc} {Q : bm_O → bm_S → Prop} {n0 : Int} {v2 : bm_V} {x3 : Int} {x4 : Int} {x5 : Int} {x6 : Int} {ι : bm_S}
  (h : (if x3 ≤ x6 then
      (bm_rg (x4 + 1)) ∧
      bW sc 23 69 [br 3 n0, br 24 0, v2, bi x3, bi (x4 + 1), bi x5, bi x6] [] ι Q
    else
      (if x5 ≤ ι 3 n0 2 then
        (bm_rg (x4 + 1)) ∧
        bW sc 23 69 [br 3 n0, br 24 0, v2, bi x3, bi (x4 + 1), bi x5, bi x6] [] ι Q
      else
        (0 ≤ x6 ∧ x6 < (18 : Int)) ∧
        (if ι 24 0 x6 = x4 then
          (bm_rg (ι 3 n0 2 + 1)) ∧
          (0 ≤ ι 3 n0 2 ∧ ι 3 n0 2 < bm_L 22 n0) ∧
          (bm_rg (x6 + 1)) ∧
          bW sc 23 93 [br 3 n0, br 24 0, v2, bi x3, bi x4, bi x5, bi (x6 + 1)] [] (up (up ι 3 n0 2 (ι 3 n0 2 + 1)) 22 n0 (ι 3 n0 2) x6) Q
        else
          (bm_rg (x6 + 1)) ∧
          bW sc 23 93 [br 3 n0, br 24 0, v2, bi x3, bi x4, bi x5, bi (x6 + 1)] [] ι Q)))) :
  bW sc 23 93 [br 3 n0, br 24 0, v2, bi x3, bi x4, bi x5, bi x6] [] ι Q := bm_snd 23 [26, 69, 93] 26 h
-- C_lengthOf
set_option maxRecDepth 100000 in
theorem e_C_lengthOf_0 {sc : bm_Sc} {Q : bm_O → bm_S → Prop} {n0 : Int} {x1 : Int} {ι : bm_S}
  (h : bW sc 24 4 [br 3 n0, bi x1, bi 0, bi 1, bu] [] ι Q) :
  bC sc 24 [br 3 n0, bi x1] ι Q := bm_snd 24 [4, 13] 5 h
set_option maxRecDepth 100000 in
theorem e_C_lengthOf_4 {sc : bm_Sc} {Q : bm_O → bm_S → Prop} {n0 : Int} {x1 : Int} {x2 : Int} {x3 : Int} {v4 : bm_V} {ι : bm_S}
  (h : (if (15 : Int) < x3 then
      Q (.inl (some (bi 0))) ι
    else
      bW sc 24 13 [br 3 n0, bi x1, bi x2, bi x3, bi 0] [] ι Q)) :
  bW sc 24 4 [br 3 n0, bi x1, bi x2, bi x3, v4] [] ι Q := bm_snd 24 [4, 13] 6 h
set_option maxRecDepth 100000 in
theorem e_C_lengthOf_13 {sc : bm_Sc} {Q : bm_O → bm_S → Prop} {n0 : Int} {x1 : Int} {x2 : Int} {x3 : Int} {x4 : Int} {ι : bm_S}
  (h : (0 ≤ x3 ∧ x3 < (16 : Int)) ∧
    (if ι 21 n0 x3 ≤ x4 then
      (bm_rg (x3 + 1)) ∧
      bW sc 24 4 [br 3 n0, bi x1, bi x2, bi (x3 + 1), bi x4] [] ι Q
    else
      (0 ≤ x2 ∧ x2 < bm_L 22 n0) ∧
      (if ι 22 n0 x2 = x1 then
        Q (.inl (some (bi x3))) ι
      else
        (bm_rg (x4 + 1)) ∧
        (bm_rg (x2 + 1)) ∧
        bW sc 24 13 [br 3 n0, bi x1, bi (x2 + 1), bi x3, bi (x4 + 1)] [] ι Q))) :
  bW sc 24 13 [br 3 n0, bi x1, bi x2, bi x3, bi x4] [] ι Q := bm_snd 24 [4, 13] 16 h
-- A_fill
set_option maxRecDepth 100000 in
theorem e_A_fill_21_0 {sc : bm_Sc} {Q : bm_O → bm_S → Prop} {n0 : Int} {x1 : Int} {ι : bm_S}
  (h : bW sc 260 5 [br 21 n0, bi x1, bi 0, bi 16] [] ι Q) :
  bC sc 260 [br 21 n0, bi x1] ι Q := bm_snd 260 [5] 6 h
set_option maxRecDepth 100000 in
theorem e_A_fill_21_5 {sc : bm_Sc} {Q : bm_O → bm_S → Prop} {n0 : Int} {x1 : Int} {x2 : Int} {x3 : Int} {ι : bm_S}
  (h : (if x3 ≤ x2 then
      Q (.inl none) ι
    else
      (0 ≤ x2 ∧ x2 < (16 : Int)) ∧
      (bm_rg (x2 + 1)) ∧
      bW sc 260 5 [br 21 n0, bi x1, bi (x2 + 1), bi x3] [] (up ι 21 n0 x2 x1) Q)) :
  bW sc 260 5 [br 21 n0, bi x1, bi x2, bi x3] [] ι Q := bm_snd 260 [5] 10 h
set_option maxRecDepth 100000 in
theorem e_A_fill_23_0 {sc : bm_Sc} {Q : bm_O → bm_S → Prop} {x1 : Int} {ι : bm_S}
  (h : bW sc 260 5 [br 23 0, bi x1, bi 0, bi 704] [] ι Q) :
  bC sc 260 [br 23 0, bi x1] ι Q := bm_snd 260 [5] 6 h
set_option maxRecDepth 100000 in
theorem e_A_fill_23_5 {sc : bm_Sc} {Q : bm_O → bm_S → Prop} {x1 : Int} {x2 : Int} {x3 : Int} {ι : bm_S}
  (h : (if x3 ≤ x2 then
      Q (.inl none) ι
    else
      (0 ≤ x2 ∧ x2 < (704 : Int)) ∧
      (bm_rg (x2 + 1)) ∧
      bW sc 260 5 [br 23 0, bi x1, bi (x2 + 1), bi x3] [] (up ι 23 0 x2 x1) Q)) :
  bW sc 260 5 [br 23 0, bi x1, bi x2, bi x3] [] ι Q := bm_snd 260 [5] 10 h
set_option maxRecDepth 100000 in
theorem e_A_fill_24_0 {sc : bm_Sc} {Q : bm_O → bm_S → Prop} {x1 : Int} {ι : bm_S}
  (h : bW sc 260 5 [br 24 0, bi x1, bi 0, bi 18] [] ι Q) :
  bC sc 260 [br 24 0, bi x1] ι Q := bm_snd 260 [5] 6 h
set_option maxRecDepth 100000 in
theorem e_A_fill_24_5 {sc : bm_Sc} {Q : bm_O → bm_S → Prop} {x1 : Int} {x2 : Int} {x3 : Int} {ι : bm_S}
  (h : (if x3 ≤ x2 then
      Q (.inl none) ι
    else
      (0 ≤ x2 ∧ x2 < (18 : Int)) ∧
      (bm_rg (x2 + 1)) ∧
      bW sc 260 5 [br 24 0, bi x1, bi (x2 + 1), bi x3] [] (up ι 24 0 x2 x1) Q)) :
  bW sc 260 5 [br 24 0, bi x1, bi x2, bi x3] [] ι Q := bm_snd 260 [5] 10 h
set_option maxRecDepth 100000 in
theorem e_A_fill_26_0 {sc : bm_Sc} {Q : bm_O → bm_S → Prop} {n0 : Int} {x1 : Int} {ι : bm_S}
  (h : bW sc 260 5 [br 26 n0, bi x1, bi 0, bi (bm_L 26 n0)] [] ι Q) :
  bC sc 260 [br 26 n0, bi x1] ι Q := bm_snd 260 [5] 6 h
set_option maxRecDepth 100000 in
theorem e_A_fill_26_5 {sc : bm_Sc} {Q : bm_O → bm_S → Prop} {n0 : Int} {x1 : Int} {x2 : Int} {x3 : Int} {ι : bm_S}
  (h : (if x3 ≤ x2 then
      Q (.inl none) ι
    else
      (0 ≤ x2 ∧ x2 < bm_L 26 n0) ∧
      (bm_rg (x2 + 1)) ∧
      bW sc 260 5 [br 26 n0, bi x1, bi (x2 + 1), bi x3] [] (up ι 26 n0 x2 x1) Q)) :
  bW sc 260 5 [br 26 n0, bi x1, bi x2, bi x3] [] ι Q := bm_snd 260 [5] 10 h
set_option maxRecDepth 100000 in
theorem e_A_fill_27_0 {sc : bm_Sc} {Q : bm_O → bm_S → Prop} {n0 : Int} {x1 : Int} {ι : bm_S}
  (h : bW sc 260 5 [br 27 n0, bi x1, bi 0, bi (bm_L 27 n0)] [] ι Q) :
  bC sc 260 [br 27 n0, bi x1] ι Q := bm_snd 260 [5] 6 h
set_option maxRecDepth 100000 in
theorem e_A_fill_27_5 {sc : bm_Sc} {Q : bm_O → bm_S → Prop} {n0 : Int} {x1 : Int} {x2 : Int} {x3 : Int} {ι : bm_S}
  (h : (if x3 ≤ x2 then
      Q (.inl none) ι
    else
      (0 ≤ x2 ∧ x2 < bm_L 27 n0) ∧
      (bm_rg (x2 + 1)) ∧
      bW sc 260 5 [br 27 n0, bi x1, bi (x2 + 1), bi x3] [] (up ι 27 n0 x2 x1) Q)) :
  bW sc 260 5 [br 27 n0, bi x1, bi x2, bi x3] [] ι Q := bm_snd 260 [5] 10 h
set_option maxRecDepth 100000 in
theorem e_A_fill_39_0 {sc : bm_Sc} {Q : bm_O → bm_S → Prop} {x1 : Int} {ι : bm_S}
  (h : bW sc 260 5 [br 39 0, bi x1, bi 0, bi 1024] [] ι Q) :
  bC sc 260 [br 39 0, bi x1] ι Q := bm_snd 260 [5] 6 h
set_option maxRecDepth 100000 in
theorem e_A_fill_39_5 {sc : bm_Sc} {Q : bm_O → bm_S → Prop} {x1 : Int} {x2 : Int} {x3 : Int} {ι : bm_S}
  (h : (if x3 ≤ x2 then
      Q (.inl none) ι
    else
      (0 ≤ x2 ∧ x2 < (1024 : Int)) ∧
      (bm_rg (x2 + 1)) ∧
      bW sc 260 5 [br 39 0, bi x1, bi (x2 + 1), bi x3] [] (up ι 39 0 x2 x1) Q)) :
  bW sc 260 5 [br 39 0, bi x1, bi x2, bi x3] [] ι Q := bm_snd 260 [5] 10 h
set_option maxRecDepth 100000 in
theorem e_A_fill_41_0 {sc : bm_Sc} {Q : bm_O → bm_S → Prop} {x1 : Int} {ι : bm_S}
  (h : bW sc 260 5 [br 41 0, bi x1, bi 0, bi 256] [] ι Q) :
  bC sc 260 [br 41 0, bi x1] ι Q := bm_snd 260 [5] 6 h
set_option maxRecDepth 100000 in
theorem e_A_fill_41_5 {sc : bm_Sc} {Q : bm_O → bm_S → Prop} {x1 : Int} {x2 : Int} {x3 : Int} {ι : bm_S}
  (h : (if x3 ≤ x2 then
      Q (.inl none) ι
    else
      (0 ≤ x2 ∧ x2 < (256 : Int)) ∧
      (bm_rg (x2 + 1)) ∧
      bW sc 260 5 [br 41 0, bi x1, bi (x2 + 1), bi x3] [] (up ι 41 0 x2 x1) Q)) :
  bW sc 260 5 [br 41 0, bi x1, bi x2, bi x3] [] ι Q := bm_snd 260 [5] 10 h
set_option maxRecDepth 100000 in
theorem e_A_fill_46_0 {sc : bm_Sc} {Q : bm_O → bm_S → Prop} {n0 : Int} {x1 : Int} {ι : bm_S}
  (h : bW sc 260 5 [br 46 n0, bi x1, bi 0, bi 768] [] ι Q) :
  bC sc 260 [br 46 n0, bi x1] ι Q := bm_snd 260 [5] 6 h
set_option maxRecDepth 100000 in
theorem e_A_fill_46_5 {sc : bm_Sc} {Q : bm_O → bm_S → Prop} {n0 : Int} {x1 : Int} {x2 : Int} {x3 : Int} {ι : bm_S}
  (h : (if x3 ≤ x2 then
      Q (.inl none) ι
    else
      (0 ≤ x2 ∧ x2 < (768 : Int)) ∧
      (bm_rg (x2 + 1)) ∧
      bW sc 260 5 [br 46 n0, bi x1, bi (x2 + 1), bi x3] [] (up ι 46 n0 x2 x1) Q)) :
  bW sc 260 5 [br 46 n0, bi x1, bi x2, bi x3] [] ι Q := bm_snd 260 [5] 10 h
set_option maxRecDepth 100000 in
theorem e_A_fill_47_0 {sc : bm_Sc} {Q : bm_O → bm_S → Prop} {n0 : Int} {x1 : Int} {ι : bm_S}
  (h : bW sc 260 5 [br 47 n0, bi x1, bi 0, bi 48] [] ι Q) :
  bC sc 260 [br 47 n0, bi x1] ι Q := bm_snd 260 [5] 6 h
set_option maxRecDepth 100000 in
theorem e_A_fill_47_5 {sc : bm_Sc} {Q : bm_O → bm_S → Prop} {n0 : Int} {x1 : Int} {x2 : Int} {x3 : Int} {ι : bm_S}
  (h : (if x3 ≤ x2 then
      Q (.inl none) ι
    else
      (0 ≤ x2 ∧ x2 < (48 : Int)) ∧
      (bm_rg (x2 + 1)) ∧
      bW sc 260 5 [br 47 n0, bi x1, bi (x2 + 1), bi x3] [] (up ι 47 n0 x2 x1) Q)) :
  bW sc 260 5 [br 47 n0, bi x1, bi x2, bi x3] [] ι Q := bm_snd 260 [5] 10 h
set_option maxRecDepth 100000 in
theorem e_A_fill_65_0 {sc : bm_Sc} {Q : bm_O → bm_S → Prop} {x1 : Int} {ι : bm_S}
  (h : bW sc 260 5 [br 65 0, bi x1, bi 0, bi 11] [] ι Q) :
  bC sc 260 [br 65 0, bi x1] ι Q := bm_snd 260 [5] 6 h
set_option maxRecDepth 100000 in
theorem e_A_fill_65_5 {sc : bm_Sc} {Q : bm_O → bm_S → Prop} {x1 : Int} {x2 : Int} {x3 : Int} {ι : bm_S}
  (h : (if x3 ≤ x2 then
      Q (.inl none) ι
    else
      (0 ≤ x2 ∧ x2 < (11 : Int)) ∧
      (bm_rg (x2 + 1)) ∧
      bW sc 260 5 [br 65 0, bi x1, bi (x2 + 1), bi x3] [] (up ι 65 0 x2 x1) Q)) :
  bW sc 260 5 [br 65 0, bi x1, bi x2, bi x3] [] ι Q := bm_snd 260 [5] 10 h
-- CR_tell
set_option maxRecDepth 100000 in
theorem e_CR_tell_0 {sc : bm_Sc} {Q : bm_O → bm_S → Prop} {n1 : Int} {x2 : Int} {ι : bm_S}
  (h : bC sc 4 [br 0 0, bi 2] ι (bk1 (fun r1 ι1 => 
      bC sc 260 [br 23 0, bi 0] ι1 (bk0 (fun ι2 => 
        (if r1 = (1 : Int) then
          bC sc 27 [br 4 0, br 3 n1, bi x2] ι2 (bk0 (fun ι7 => 
            Q (.inl none) ι7) (bq Q))
        else
          bC sc 30 [br 4 0, bi r1] ι2 (bk0 (fun ι3 => 
            bC sc 33 [br 4 0, bi x2] ι3 (bk0 (fun ι4 => 
              bC sc 2 [br 0 0] ι4 (bk1 (fun r5 ι5 => 
                (if r5 = (0 : Int) then
                  Q (.inl none) ι5
                else
                  bC sc 23 [br 3 n1, br 23 0, bi x2] ι5 (bk0 (fun ι6 => 
                    Q (.inl none) ι6) (bq Q)))) (bq Q))) (bq Q))) (bq Q)))) (bq Q))) (bq Q))) :
  bC sc 26 [br 4 0, br 3 n1, bi x2] ι Q := bm_snd 26 [] 28 h
-- CR_readShort
set_option maxRecDepth 100000 in
theorem e_CR_readShort_0 {sc : bm_Sc} {Q : bm_O → bm_S → Prop} {n1 : Int} {x2 : Int} {ι : bm_S}
  (h : bC sc 4 [br 0 0, bi 2] ι (bk1 (fun r1 ι1 => 
      (bm_rg (r1 + 1)) ∧
      (bm_rg (x2 - 1)) ∧
      bC sc 141 [bi (x2 - 1)] ι1 (bk1 (fun r2 ι2 => 
        bW sc 27 22 [br 4 0, br 3 n1, bi x2, bi (r1 + 1), bi r2, bi 0, bu] [] ι2 Q) (bq Q))) (bq Q))) :
  bC sc 27 [br 4 0, br 3 n1, bi x2] ι Q := bm_snd 27 [22, 134] 15 h
set_option maxRecDepth 100000 in
theorem e_CR_readShort_22 {sc : bm_Sc} {Q : bm_O → bm_S → Prop} {n1 : Int} {x2 : Int} {x3 : Int} {x4 : Int} {x5 : Int} {v6 : bm_V} {ι : bm_S}
  (h : (if x3 ≤ x5 then
      (if x3 = (4 : Int) then
        bC sc 4 [br 0 0, bi 1] ι (bk1 (fun r3 ι3 => 
          (if r3 = (1 : Int) then
            bC sc 2 [br 0 0] ι3 (bk1 (fun r6 ι6 => 
              (if r6 = (0 : Int) then
                Q (.inl none) ι6
              else
                (if x3 = (1 : Int) then
                  (0 ≤ (0 : Int) ∧ (0 : Int) < (4 : Int)) ∧
                  bC sc 22 [br 3 n1, bi (ι6 25 0 0)] ι6 (bk0 (fun ι7 => 
                    Q (.inl none) ι7) (bq Q))
                else
                  bW sc 27 134 [br 4 0, br 3 n1, bi x2, bi x3, bi x4, bi 1, bi 0] [] ι6 Q))) (bq Q))
          else
            bC sc 2 [br 0 0] ι3 (bk1 (fun r4 ι4 => 
              (if r4 = (0 : Int) then
                Q (.inl none) ι4
              else
                (if x3 = (1 : Int) then
                  (0 ≤ (0 : Int) ∧ (0 : Int) < (4 : Int)) ∧
                  bC sc 22 [br 3 n1, bi (ι4 25 0 0)] ι4 (bk0 (fun ι5 => 
                    Q (.inl none) ι5) (bq Q))
                else
                  bW sc 27 134 [br 4 0, br 3 n1, bi x2, bi x3, bi x4, bi 0, bi 0] [] ι4 Q))) (bq Q)))) (bq Q))
      else
        bC sc 2 [br 0 0] ι (bk1 (fun r1 ι1 => 
          (if r1 = (0 : Int) then
            Q (.inl none) ι1
          else
            (if x3 = (1 : Int) then
              (0 ≤ (0 : Int) ∧ (0 : Int) < (4 : Int)) ∧
              bC sc 22 [br 3 n1, bi (ι1 25 0 0)] ι1 (bk0 (fun ι2 => 
                Q (.inl none) ι2) (bq Q))
            else
              bW sc 27 134 [br 4 0, br 3 n1, bi x2, bi x3, bi x4, bi 0, bi 0] [] ι1 Q))) (bq Q)))
    else
      bC sc 4 [br 0 0, bi x4] ι (bk1 (fun r8 ι8 => 
        (0 ≤ x5 ∧ x5 < (4 : Int)) ∧
        bC sc 2 [br 0 0] (up ι8 25 0 x5 r8) (bk1 (fun r9 ι9 => 
          (if r9 = (0 : Int) then
            bC sc 3 [br 0 0, bi 12] ι9 (bk0 (fun ι10 => 
              Q (.inl none) ι10) (bq Q))
          else
            bC sc 28 [br 4 0, bi x5, bi x2] ι9 (bk1 (fun r11 ι11 => 
              (if r11 = (0 : Int) then
                bC sc 3 [br 0 0, bi 12] ι11 (bk0 (fun ι12 => 
                  Q (.inl none) ι12) (bq Q))
              else
                (bm_rg (x5 + 1)) ∧
                bW sc 27 22 [br 4 0, br 3 n1, bi x2, bi x3, bi x4, bi (x5 + 1), v6] [] ι11 Q)) (bq Q)))) (bq Q))) (bq Q)))) :
  bW sc 27 22 [br 4 0, br 3 n1, bi x2, bi x3, bi x4, bi x5, v6] [] ι Q := bm_snd 27 [22, 134] 29 h
set_option maxRecDepth 100000 in
theorem e_CR_readShort_134 {sc : bm_Sc} {Q : bm_O → bm_S → Prop} {n1 : Int} {x2 : Int} {x3 : Int} {v4 : bm_V} {x5 : Int} {x6 : Int} {ι : bm_S}
  (h : (if x3 ≤ x6 then
      bC sc 23 [br 3 n1, br 23 0, bi x2] ι (bk0 (fun ι1 => 
        Q (.inl none) ι1) (bq Q))
    else
      (0 ≤ x6 ∧ x6 < (4 : Int)) ∧
      bC sc 29 [bi x3, bi x6, bi x5] ι (bk1 (fun r2 ι2 => 
        (0 ≤ ι 25 0 x6 ∧ ι 25 0 x6 < (704 : Int)) ∧
        (bm_rg (x6 + 1)) ∧
        bW sc 27 134 [br 4 0, br 3 n1, bi x2, bi x3, v4, bi x5, bi (x6 + 1)] [] (up ι2 23 0 (ι 25 0 x6) r2) Q) (bq Q)))) :
  bW sc 27 134 [br 4 0, br 3 n1, bi x2, bi x3, v4, bi x5, bi x6] [] ι Q := bm_snd 27 [22, 134] 17 h
-- CR_isNew
set_option maxRecDepth 100000 in
theorem e_CR_isNew_0 {sc : bm_Sc} {Q : bm_O → bm_S → Prop} {x1 : Int} {x2 : Int} {ι : bm_S}
  (h : (0 ≤ x1 ∧ x1 < (4 : Int)) ∧
    (if x2 ≤ ι 25 0 x1 then
      bW sc 28 33 [br 4 0, bi x1, bi x2, bi 1, bi 0] [] ι Q
    else
      (0 ≤ x1 ∧ x1 < (4 : Int)) ∧
      (if ι 25 0 x1 < (704 : Int) then
        bW sc 28 33 [br 4 0, bi x1, bi x2, bi 0, bi 0] [] ι Q
      else
        bW sc 28 33 [br 4 0, bi x1, bi x2, bi 1, bi 0] [] ι Q))) :
  bC sc 28 [br 4 0, bi x1, bi x2] ι Q := bm_snd 28 [33] 20 h
set_option maxRecDepth 100000 in
theorem e_CR_isNew_33 {sc : bm_Sc} {Q : bm_O → bm_S → Prop} {x1 : Int} {v2 : bm_V} {x3 : Int} {x4 : Int} {ι : bm_S}
  (h : (if x1 ≤ x4 then
      (if x3 = (0 : Int) then
        ((1 : Int) = 0 ∨ (1 : Int) = 1) ∧
        Q (.inl (some (bi 1))) ι
      else
        ((0 : Int) = 0 ∨ (0 : Int) = 1) ∧
        Q (.inl (some (bi 0))) ι)
    else
      (if x3 = (0 : Int) then
        (0 ≤ x4 ∧ x4 < (4 : Int)) ∧
        (0 ≤ x1 ∧ x1 < (4 : Int)) ∧
        (if ι 25 0 x4 = ι 25 0 x1 then
          (bm_rg (x4 + 1)) ∧
          bW sc 28 33 [br 4 0, bi x1, v2, bi 1, bi (x4 + 1)] [] ι Q
        else
          (bm_rg (x4 + 1)) ∧
          bW sc 28 33 [br 4 0, bi x1, v2, bi 0, bi (x4 + 1)] [] ι Q)
      else
        (bm_rg (x4 + 1)) ∧
        bW sc 28 33 [br 4 0, bi x1, v2, bi 1, bi (x4 + 1)] [] ι Q))) :
  bW sc 28 33 [br 4 0, bi x1, v2, bi x3, bi x4] [] ι Q := bm_snd 28 [33] 20 h
-- CR_shortLength
set_option maxRecDepth 100000 in
theorem e_CR_shortLength_0 {sc : bm_Sc} {Q : bm_O → bm_S → Prop} {x0 : Int} {x1 : Int} {x2 : Int} {ι : bm_S}
  (h : (if x0 = (2 : Int) then
      Q (.inl (some (bi 1))) ι
    else
      (if x0 = (3 : Int) then
        (bm_rg (x1 + 1)) ∧
        (bm_rg (x0 - 1)) ∧
        Q (.inl (some (bi (min (x1 + 1) (x0 - 1))))) ι
      else
        (if x2 = (0 : Int) then
          Q (.inl (some (bi 2))) ι
        else
          (bm_rg (x1 + 1)) ∧
          (bm_rg (x0 - 1)) ∧
          Q (.inl (some (bi (min (x1 + 1) (x0 - 1))))) ι)))) :
  bC sc 29 [bi x0, bi x1, bi x2] ι Q := bm_snd 29 [] 16 h
-- CR_readMarks
set_option maxRecDepth 100000 in
theorem e_CR_readMarks_0 {sc : bm_Sc} {Q : bm_O → bm_S → Prop} {x1 : Int} {ι : bm_S}
  (h : bC sc 260 [br 24 0, bi 0] ι (bk0 (fun ι1 => 
      bW sc 30 15 [br 4 0, bi x1, bi 0, bi 0, bi x1, bu] [] ι1 Q) (bq Q))) :
  bC sc 30 [br 4 0, bi x1] ι Q := bm_snd 30 [15, 73] 11 h
set_option maxRecDepth 100000 in
theorem e_CR_readMarks_15 {sc : bm_Sc} {Q : bm_O → bm_S → Prop} {v1 : bm_V} {x2 : Int} {x3 : Int} {x4 : Int} {v5 : bm_V} {ι : bm_S}
  (h : (if (18 : Int) ≤ x4 then
      (if x3 = (0 : Int) then
        bC sc 3 [br 0 0, bi 13] ι (bk0 (fun ι1 => 
          bC sc 32 [br 4 0, bi x3] ι1 (bk0 (fun ι2 => 
            Q (.inl none) ι2) (bq Q))) (bq Q))
      else
        (if x3 ≤ (1 : Int) then
          bC sc 32 [br 4 0, bi x3] ι (bk0 (fun ι3 => 
            Q (.inl none) ι3) (bq Q))
        else
          (if x2 = (32 : Int) then
            bC sc 32 [br 4 0, bi x3] ι (bk0 (fun ι4 => 
              Q (.inl none) ι4) (bq Q))
          else
            bC sc 3 [br 0 0, bi 13] ι (bk0 (fun ι5 => 
              bC sc 32 [br 4 0, bi x3] ι5 (bk0 (fun ι6 => 
                Q (.inl none) ι6) (bq Q))) (bq Q)))))
    else
      (if (32 : Int) ≤ x2 then
        (if x3 = (0 : Int) then
          bC sc 3 [br 0 0, bi 13] ι (bk0 (fun ι7 => 
            bC sc 32 [br 4 0, bi x3] ι7 (bk0 (fun ι8 => 
              Q (.inl none) ι8) (bq Q))) (bq Q))
        else
          (if x3 ≤ (1 : Int) then
            bC sc 32 [br 4 0, bi x3] ι (bk0 (fun ι9 => 
              Q (.inl none) ι9) (bq Q))
          else
            (if x2 = (32 : Int) then
              bC sc 32 [br 4 0, bi x3] ι (bk0 (fun ι10 => 
                Q (.inl none) ι10) (bq Q))
            else
              bC sc 3 [br 0 0, bi 13] ι (bk0 (fun ι11 => 
                bC sc 32 [br 4 0, bi x3] ι11 (bk0 (fun ι12 => 
                  Q (.inl none) ι12) (bq Q))) (bq Q)))))
      else
        bC sc 2 [br 0 0] ι (bk1 (fun r13 ι13 => 
          (if r13 = (0 : Int) then
            (if x3 = (0 : Int) then
              bC sc 3 [br 0 0, bi 13] ι13 (bk0 (fun ι14 => 
                bC sc 32 [br 4 0, bi x3] ι14 (bk0 (fun ι15 => 
                  Q (.inl none) ι15) (bq Q))) (bq Q))
            else
              (if x3 ≤ (1 : Int) then
                bC sc 32 [br 4 0, bi x3] ι13 (bk0 (fun ι16 => 
                  Q (.inl none) ι16) (bq Q))
              else
                (if x2 = (32 : Int) then
                  bC sc 32 [br 4 0, bi x3] ι13 (bk0 (fun ι17 => 
                    Q (.inl none) ι17) (bq Q))
                else
                  bC sc 3 [br 0 0, bi 13] ι13 (bk0 (fun ι18 => 
                    bC sc 32 [br 4 0, bi x3] ι18 (bk0 (fun ι19 => 
                      Q (.inl none) ι19) (bq Q))) (bq Q)))))
          else
            bC sc 31 [br 4 0] ι13 (bk1 (fun r20 ι20 => 
              (0 ≤ x4 ∧ x4 < (18 : Int)) ∧
              (0 ≤ bm_X sc 204 x4 ∧ bm_X sc 204 x4 < (18 : Int)) ∧
              (if r20 ≤ (0 : Int) then
                bW sc 30 73 [br 4 0, v1, bi x2, bi x3, bi x4, bi r20] [] (up ι20 24 0 (bm_X sc 204 x4) r20) Q
              else
                (bm_rg (x3 + 1)) ∧
                (0 ≤ r20 ∧ r20 < 32) ∧
                (bm_rg (x2 + 32 / bm_p2 r20)) ∧
                bW sc 30 73 [br 4 0, v1, bi (x2 + 32 / bm_p2 r20), bi (x3 + 1), bi x4, bi r20] [] (up ι20 24 0 (bm_X sc 204 x4) r20) Q)) (bq Q)))) (bq Q))))) :
  bW sc 30 15 [br 4 0, v1, bi x2, bi x3, bi x4, v5] [] ι Q := bm_snd 30 [15, 73] 30 h
set_option maxRecDepth 100000 in
theorem e_CR_readMarks_73 {sc : bm_Sc} {Q : bm_O → bm_S → Prop} {v1 : bm_V} {x2 : Int} {x3 : Int} {x4 : Int} {v5 : bm_V} {ι : bm_S}
  (h : (if x2 ≤ (32 : Int) then
      (bm_rg (x4 + 1)) ∧
      bW sc 30 15 [br 4 0, v1, bi x2, bi x3, bi (x4 + 1), v5] [] ι Q
    else
      bC sc 3 [br 0 0, bi 13] ι (bk0 (fun ι1 => 
        (bm_rg (x4 + 1)) ∧
        bW sc 30 15 [br 4 0, v1, bi x2, bi x3, bi (x4 + 1), v5] [] ι1 Q) (bq Q)))) :
  bW sc 30 73 [br 4 0, v1, bi x2, bi x3, bi x4, v5] [] ι Q := bm_snd 30 [15, 73] 10 h
-- CR_markLength
set_option maxRecDepth 100000 in
theorem e_CR_markLength_0 {sc : bm_Sc} {Q : bm_O → bm_S → Prop}  {ι : bm_S}
  (h : bC sc 4 [br 0 0, bi 1] ι (bk1 (fun r1 ι1 => 
      (if r1 = (0 : Int) then
        bC sc 4 [br 0 0, bi 1] ι1 (bk1 (fun r5 ι5 => 
          (if r5 = (0 : Int) then
            Q (.inl (some (bi 0))) ι5
          else
            Q (.inl (some (bi 3))) ι5)) (bq Q))
      else
        bC sc 4 [br 0 0, bi 1] ι1 (bk1 (fun r2 ι2 => 
          (if r2 = (0 : Int) then
            Q (.inl (some (bi 4))) ι2
          else
            bC sc 4 [br 0 0, bi 1] ι2 (bk1 (fun r3 ι3 => 
              (if r3 = (0 : Int) then
                Q (.inl (some (bi 2))) ι3
              else
                bC sc 4 [br 0 0, bi 1] ι3 (bk1 (fun r4 ι4 => 
                  (if r4 = (0 : Int) then
                    Q (.inl (some (bi 1))) ι4
                  else
                    Q (.inl (some (bi 5))) ι4)) (bq Q)))) (bq Q)))) (bq Q)))) (bq Q))) :
  bC sc 31 [br 4 0] ι Q := bm_snd 31 [] 23 h
-- CR_buildMarks
set_option maxRecDepth 100000 in
theorem e_CR_buildMarks_0 {sc : bm_Sc} {Q : bm_O → bm_S → Prop} {x1 : Int} {ι : bm_S}
  (h : (if x1 = (1 : Int) then
      bW sc 32 21 [br 4 0, bi x1, bi 0] [] ι Q
    else
      bC sc 23 [br 3 73, br 24 0, bi 18] ι (bk0 (fun ι1 => 
        Q (.inl none) ι1) (bq Q)))) :
  bC sc 32 [br 4 0, bi x1] ι Q := bm_snd 32 [21] 10 h
set_option maxRecDepth 100000 in
theorem e_CR_buildMarks_21 {sc : bm_Sc} {Q : bm_O → bm_S → Prop} {v1 : bm_V} {x2 : Int} {ι : bm_S}
  (h : (if (18 : Int) ≤ x2 then
      Q (.inl none) ι
    else
      (0 ≤ x2 ∧ x2 < (18 : Int)) ∧
      (if ι 24 0 x2 ≤ (0 : Int) then
        (bm_rg (x2 + 1)) ∧
        bW sc 32 21 [br 4 0, v1, bi (x2 + 1)] [] ι Q
      else
        bC sc 22 [br 3 73, bi x2] ι (bk0 (fun ι1 => 
          (bm_rg (x2 + 1)) ∧
          bW sc 32 21 [br 4 0, v1, bi (x2 + 1)] [] ι1 Q) (bq Q))))) :
  bW sc 32 21 [br 4 0, v1, bi x2] [] ι Q := bm_snd 32 [21] 15 h
-- CR_readLengths
set_option maxRecDepth 100000 in
theorem e_CR_readLengths_0 {sc : bm_Sc} {Q : bm_O → bm_S → Prop} {x1 : Int} {ι : bm_S}
  (h : bW sc 33 23 [br 4 0, bi x1, bi 0, bi 0, bi 0, bu, bu, bu] [] (up (up (up ι 4 0 5 0) 4 0 6 0) 4 0 7 8) Q) :
  bC sc 33 [br 4 0, bi x1] ι Q := bm_snd 33 [23, 197, 206, 224] 16 h
set_option maxRecDepth 100000 in
theorem e_CR_readLengths_23 {sc : bm_Sc} {Q : bm_O → bm_S → Prop} {x1 : Int} {x2 : Int} {x3 : Int} {x4 : Int} {v5 : bm_V} {v6 : bm_V} {v7 : bm_V} {ι : bm_S}
  (h : (if x1 ≤ x4 then
      bW sc 33 206 [br 4 0, bi x1, bi x2, bi x3, bi x4, v5, v6, v7] [] ι Q
    else
      (if x1 ≤ ι 4 0 5 then
        bW sc 33 206 [br 4 0, bi x1, bi x2, bi x3, bi x4, v5, v6, v7] [] ι Q
      else
        (if (32768 : Int) ≤ ι 4 0 6 then
          bW sc 33 206 [br 4 0, bi x1, bi x2, bi x3, bi x4, v5, v6, v7] [] ι Q
        else
          bC sc 2 [br 0 0] ι (bk1 (fun r1 ι1 => 
            (if r1 = (0 : Int) then
              bW sc 33 206 [br 4 0, bi x1, bi x2, bi x3, bi x4, v5, v6, v7] [] ι1 Q
            else
              bC sc 5 [br 0 0, br 3 73] ι1 (bk1 (fun r2 ι2 => 
                (if (16 : Int) ≤ r2 then
                  (if r2 = (16 : Int) then
                    bC sc 4 [br 0 0, bi 2] ι2 (bk1 (fun r12 ι12 => 
                      (bm_rg (r12 + 3)) ∧
                      (if r2 = x2 then
                        (if x3 = (0 : Int) then
                          (if r2 = (16 : Int) then
                            (bm_rg (r12 + 3 - x3)) ∧
                            bC sc 34 [br 4 0, bi (ι12 4 0 7), bi (r12 + 3 - x3), bi x1] ι12 (bk0 (fun ι20 => 
                              bW sc 33 197 [br 4 0, bi x1, bi x2, bi (r12 + 3), bi x4, bi r2, bi (r12 + 3), bi x3] [] ι20 Q) (bq Q))
                          else
                            (bm_rg (r12 + 3 - x3)) ∧
                            bC sc 34 [br 4 0, bi 0, bi (r12 + 3 - x3), bi x1] ι12 (bk0 (fun ι19 => 
                              bW sc 33 197 [br 4 0, bi x1, bi x2, bi (r12 + 3), bi x4, bi r2, bi (r12 + 3), bi x3] [] ι19 Q) (bq Q)))
                        else
                          (if r2 = (16 : Int) then
                            (bm_rg (x3 - 2)) ∧
                            (bm_rg (4 * (x3 - 2))) ∧
                            (bm_rg (4 * (x3 - 2) + (r12 + 3))) ∧
                            (if r2 = (16 : Int) then
                              (bm_rg (4 * (x3 - 2) + (r12 + 3) - x3)) ∧
                              bC sc 34 [br 4 0, bi (ι12 4 0 7), bi (4 * (x3 - 2) + (r12 + 3) - x3), bi x1] ι12 (bk0 (fun ι18 => 
                                bW sc 33 197 [br 4 0, bi x1, bi x2, bi (4 * (x3 - 2) + (r12 + 3)), bi x4, bi r2, bi (r12 + 3), bi x3] [] ι18 Q) (bq Q))
                            else
                              (bm_rg (4 * (x3 - 2) + (r12 + 3) - x3)) ∧
                              bC sc 34 [br 4 0, bi 0, bi (4 * (x3 - 2) + (r12 + 3) - x3), bi x1] ι12 (bk0 (fun ι17 => 
                                bW sc 33 197 [br 4 0, bi x1, bi x2, bi (4 * (x3 - 2) + (r12 + 3)), bi x4, bi r2, bi (r12 + 3), bi x3] [] ι17 Q) (bq Q)))
                          else
                            (bm_rg (x3 - 2)) ∧
                            (bm_rg (8 * (x3 - 2))) ∧
                            (bm_rg (8 * (x3 - 2) + (r12 + 3))) ∧
                            (if r2 = (16 : Int) then
                              (bm_rg (8 * (x3 - 2) + (r12 + 3) - x3)) ∧
                              bC sc 34 [br 4 0, bi (ι12 4 0 7), bi (8 * (x3 - 2) + (r12 + 3) - x3), bi x1] ι12 (bk0 (fun ι16 => 
                                bW sc 33 197 [br 4 0, bi x1, bi x2, bi (8 * (x3 - 2) + (r12 + 3)), bi x4, bi r2, bi (r12 + 3), bi x3] [] ι16 Q) (bq Q))
                            else
                              (bm_rg (8 * (x3 - 2) + (r12 + 3) - x3)) ∧
                              bC sc 34 [br 4 0, bi 0, bi (8 * (x3 - 2) + (r12 + 3) - x3), bi x1] ι12 (bk0 (fun ι15 => 
                                bW sc 33 197 [br 4 0, bi x1, bi x2, bi (8 * (x3 - 2) + (r12 + 3)), bi x4, bi r2, bi (r12 + 3), bi x3] [] ι15 Q) (bq Q)))))
                      else
                        (if r2 = (16 : Int) then
                          (bm_rg (r12 + 3 - 0)) ∧
                          bC sc 34 [br 4 0, bi (ι12 4 0 7), bi (r12 + 3 - 0), bi x1] ι12 (bk0 (fun ι14 => 
                            bW sc 33 197 [br 4 0, bi x1, bi x2, bi (r12 + 3), bi x4, bi r2, bi (r12 + 3), bi 0] [] ι14 Q) (bq Q))
                        else
                          (bm_rg (r12 + 3 - 0)) ∧
                          bC sc 34 [br 4 0, bi 0, bi (r12 + 3 - 0), bi x1] ι12 (bk0 (fun ι13 => 
                            bW sc 33 197 [br 4 0, bi x1, bi x2, bi (r12 + 3), bi x4, bi r2, bi (r12 + 3), bi 0] [] ι13 Q) (bq Q))))) (bq Q))
                  else
                    bC sc 4 [br 0 0, bi 3] ι2 (bk1 (fun r3 ι3 => 
                      (bm_rg (r3 + 3)) ∧
                      (if r2 = x2 then
                        (if x3 = (0 : Int) then
                          (if r2 = (16 : Int) then
                            (bm_rg (r3 + 3 - x3)) ∧
                            bC sc 34 [br 4 0, bi (ι3 4 0 7), bi (r3 + 3 - x3), bi x1] ι3 (bk0 (fun ι11 => 
                              bW sc 33 197 [br 4 0, bi x1, bi x2, bi (r3 + 3), bi x4, bi r2, bi (r3 + 3), bi x3] [] ι11 Q) (bq Q))
                          else
                            (bm_rg (r3 + 3 - x3)) ∧
                            bC sc 34 [br 4 0, bi 0, bi (r3 + 3 - x3), bi x1] ι3 (bk0 (fun ι10 => 
                              bW sc 33 197 [br 4 0, bi x1, bi x2, bi (r3 + 3), bi x4, bi r2, bi (r3 + 3), bi x3] [] ι10 Q) (bq Q)))
                        else
                          (if r2 = (16 : Int) then
                            (bm_rg (x3 - 2)) ∧
                            (bm_rg (4 * (x3 - 2))) ∧
                            (bm_rg (4 * (x3 - 2) + (r3 + 3))) ∧
                            (if r2 = (16 : Int) then
                              (bm_rg (4 * (x3 - 2) + (r3 + 3) - x3)) ∧
                              bC sc 34 [br 4 0, bi (ι3 4 0 7), bi (4 * (x3 - 2) + (r3 + 3) - x3), bi x1] ι3 (bk0 (fun ι9 => 
                                bW sc 33 197 [br 4 0, bi x1, bi x2, bi (4 * (x3 - 2) + (r3 + 3)), bi x4, bi r2, bi (r3 + 3), bi x3] [] ι9 Q) (bq Q))
                            else
                              (bm_rg (4 * (x3 - 2) + (r3 + 3) - x3)) ∧
                              bC sc 34 [br 4 0, bi 0, bi (4 * (x3 - 2) + (r3 + 3) - x3), bi x1] ι3 (bk0 (fun ι8 => 
                                bW sc 33 197 [br 4 0, bi x1, bi x2, bi (4 * (x3 - 2) + (r3 + 3)), bi x4, bi r2, bi (r3 + 3), bi x3] [] ι8 Q) (bq Q)))
                          else
                            (bm_rg (x3 - 2)) ∧
                            (bm_rg (8 * (x3 - 2))) ∧
                            (bm_rg (8 * (x3 - 2) + (r3 + 3))) ∧
                            (if r2 = (16 : Int) then
                              (bm_rg (8 * (x3 - 2) + (r3 + 3) - x3)) ∧
                              bC sc 34 [br 4 0, bi (ι3 4 0 7), bi (8 * (x3 - 2) + (r3 + 3) - x3), bi x1] ι3 (bk0 (fun ι7 => 
                                bW sc 33 197 [br 4 0, bi x1, bi x2, bi (8 * (x3 - 2) + (r3 + 3)), bi x4, bi r2, bi (r3 + 3), bi x3] [] ι7 Q) (bq Q))
                            else
                              (bm_rg (8 * (x3 - 2) + (r3 + 3) - x3)) ∧
                              bC sc 34 [br 4 0, bi 0, bi (8 * (x3 - 2) + (r3 + 3) - x3), bi x1] ι3 (bk0 (fun ι6 => 
                                bW sc 33 197 [br 4 0, bi x1, bi x2, bi (8 * (x3 - 2) + (r3 + 3)), bi x4, bi r2, bi (r3 + 3), bi x3] [] ι6 Q) (bq Q)))))
                      else
                        (if r2 = (16 : Int) then
                          (bm_rg (r3 + 3 - 0)) ∧
                          bC sc 34 [br 4 0, bi (ι3 4 0 7), bi (r3 + 3 - 0), bi x1] ι3 (bk0 (fun ι5 => 
                            bW sc 33 197 [br 4 0, bi x1, bi x2, bi (r3 + 3), bi x4, bi r2, bi (r3 + 3), bi 0] [] ι5 Q) (bq Q))
                        else
                          (bm_rg (r3 + 3 - 0)) ∧
                          bC sc 34 [br 4 0, bi 0, bi (r3 + 3 - 0), bi x1] ι3 (bk0 (fun ι4 => 
                            bW sc 33 197 [br 4 0, bi x1, bi x2, bi (r3 + 3), bi x4, bi r2, bi (r3 + 3), bi 0] [] ι4 Q) (bq Q))))) (bq Q)))
                else
                  (if r2 ≤ (0 : Int) then
                    bC sc 34 [br 4 0, bi r2, bi 1, bi x1] (up ι2 4 0 7 (ι2 4 0 7)) (bk0 (fun ι21 => 
                      bW sc 33 197 [br 4 0, bi x1, bi x2, bi x3, bi x4, bi r2, v6, v7] [] ι21 Q) (bq Q))
                  else
                    bC sc 34 [br 4 0, bi r2, bi 1, bi x1] (up ι2 4 0 7 r2) (bk0 (fun ι22 => 
                      bW sc 33 197 [br 4 0, bi x1, bi x2, bi x3, bi x4, bi r2, v6, v7] [] ι22 Q) (bq Q))))) (bq Q)))) (bq Q)))))) :
  bW sc 33 23 [br 4 0, bi x1, bi x2, bi x3, bi x4, v5, v6, v7] [] ι Q := bm_snd 33 [23, 197, 206, 224] 68 h
set_option maxRecDepth 100000 in
theorem e_CR_readLengths_197 {sc : bm_Sc} {Q : bm_O → bm_S → Prop} {x1 : Int} {v2 : bm_V} {x3 : Int} {x4 : Int} {x5 : Int} {v6 : bm_V} {v7 : bm_V} {ι : bm_S}
  (h : (bm_rg (x4 + 1)) ∧
    bW sc 33 23 [br 4 0, bi x1, bi x5, bi x3, bi (x4 + 1), bi x5, v6, v7] [] ι Q) :
  bW sc 33 197 [br 4 0, bi x1, v2, bi x3, bi x4, bi x5, v6, v7] [] ι Q := bm_snd 33 [23, 197, 206, 224] 5 h
set_option maxRecDepth 100000 in
theorem e_CR_readLengths_206 {sc : bm_Sc} {Q : bm_O → bm_S → Prop} {v1 : bm_V} {v2 : bm_V} {v3 : bm_V} {v4 : bm_V} {v5 : bm_V} {v6 : bm_V} {v7 : bm_V} {ι : bm_S}
  (h : (if ι 4 0 6 = (32768 : Int) then
      bW sc 33 224 [br 4 0, v1, v2, v3, v4, v5, v6, v7] [] ι Q
    else
      bC sc 3 [br 0 0, bi 14] ι (bk0 (fun ι1 => 
        bW sc 33 224 [br 4 0, v1, v2, v3, v4, v5, v6, v7] [] ι1 Q) (bq Q)))) :
  bW sc 33 206 [br 4 0, v1, v2, v3, v4, v5, v6, v7] [] ι Q := bm_snd 33 [23, 197, 206, 224] 9 h
set_option maxRecDepth 100000 in
theorem e_CR_readLengths_224 {sc : bm_Sc} {Q : bm_O → bm_S → Prop} {v0 : bm_V} {v1 : bm_V} {v2 : bm_V} {v3 : bm_V} {v4 : bm_V} {v5 : bm_V} {v6 : bm_V} {v7 : bm_V} {ι : bm_S}
  (h : Q (.inl none) ι) :
  bW sc 33 224 [v0, v1, v2, v3, v4, v5, v6, v7] [] ι Q := bm_snd 33 [23, 197, 206, 224] 1 h
-- CR_come
set_option maxRecDepth 100000 in
theorem e_CR_come_0 {sc : bm_Sc} {Q : bm_O → bm_S → Prop} {x1 : Int} {x2 : Int} {x3 : Int} {ι : bm_S}
  (h : (bm_rg (x3 - ι 4 0 5)) ∧
    (if x3 - ι 4 0 5 < x2 then
      bC sc 3 [br 0 0, bi 14] ι (bk0 (fun ι1 => 
        bC sc 2 [br 0 0] ι1 (bk1 (fun r2 ι2 => 
          (if r2 = (0 : Int) then
            Q (.inl none) ι2
          else
            bW sc 34 42 [br 4 0, bi x1, bi x2, bi x3, bi 0] [] ι2 Q)) (bq Q))) (bq Q))
    else
      (if x3 ≤ (704 : Int) then
        bC sc 2 [br 0 0] ι (bk1 (fun r3 ι3 => 
          (if r3 = (0 : Int) then
            Q (.inl none) ι3
          else
            bW sc 34 42 [br 4 0, bi x1, bi x2, bi x3, bi 0] [] ι3 Q)) (bq Q))
      else
        bC sc 3 [br 0 0, bi 14] ι (bk0 (fun ι4 => 
          bC sc 2 [br 0 0] ι4 (bk1 (fun r5 ι5 => 
            (if r5 = (0 : Int) then
              Q (.inl none) ι5
            else
              bW sc 34 42 [br 4 0, bi x1, bi x2, bi x3, bi 0] [] ι5 Q)) (bq Q))) (bq Q))))) :
  bC sc 34 [br 4 0, bi x1, bi x2, bi x3] ι Q := bm_snd 34 [42] 22 h
set_option maxRecDepth 100000 in
theorem e_CR_come_42 {sc : bm_Sc} {Q : bm_O → bm_S → Prop} {x1 : Int} {x2 : Int} {v3 : bm_V} {x4 : Int} {ι : bm_S}
  (h : (if x2 ≤ x4 then
      (if x1 ≤ (0 : Int) then
        (if ι 4 0 6 ≤ (32768 : Int) then
          Q (.inl none) ι
        else
          bC sc 3 [br 0 0, bi 14] ι (bk0 (fun ι1 => 
            Q (.inl none) ι1) (bq Q)))
      else
        (0 ≤ x1 ∧ x1 < 32) ∧
        (bm_rg (x2 * (32768 / bm_p2 x1))) ∧
        (bm_rg (ι 4 0 6 + x2 * (32768 / bm_p2 x1))) ∧
        (if ι 4 0 6 + x2 * (32768 / bm_p2 x1) ≤ (32768 : Int) then
          Q (.inl none) (up ι 4 0 6 (ι 4 0 6 + x2 * (32768 / bm_p2 x1)))
        else
          bC sc 3 [br 0 0, bi 14] (up ι 4 0 6 (ι 4 0 6 + x2 * (32768 / bm_p2 x1))) (bk0 (fun ι2 => 
            Q (.inl none) ι2) (bq Q))))
    else
      (bm_rg (ι 4 0 5 + 1)) ∧
      (0 ≤ ι 4 0 5 ∧ ι 4 0 5 < (704 : Int)) ∧
      (bm_rg (x4 + 1)) ∧
      bW sc 34 42 [br 4 0, bi x1, bi x2, v3, bi (x4 + 1)] [] (up (up ι 4 0 5 (ι 4 0 5 + 1)) 23 0 (ι 4 0 5) x1) Q)) :
  bW sc 34 42 [br 4 0, bi x1, bi x2, v3, bi x4] [] ι Q := bm_snd 34 [42] 24 h
-- L_mapOf
set_option maxRecDepth 100000 in
theorem e_L_mapOf_0 {sc : bm_Sc} {Q : bm_O → bm_S → Prop} {n0 : Int} {x1 : Int} {ι : bm_S}
  (h : (if x1 = (0 : Int) then
      Q (.inl (some (br 46 n0))) ι
    else
      Q (.inl (some (br 47 n0))) ι)) :
  bC sc 63 [br 7 n0, bi x1] ι Q := bm_snd 63 [] 6 h
-- L_mapSize
set_option maxRecDepth 100000 in
theorem e_L_mapSize_0 {sc : bm_Sc} {Q : bm_O → bm_S → Prop} {n0 : Int} {x1 : Int} {ι : bm_S}
  (h : (if x1 = (0 : Int) then
      (0 ≤ (0 : Int) ∧ (0 : Int) < (3 : Int)) ∧
      (bm_rg (64 * ι 43 n0 0)) ∧
      Q (.inl (some (bi (64 * ι 43 n0 0)))) ι
    else
      (0 ≤ (2 : Int) ∧ (2 : Int) < (3 : Int)) ∧
      (bm_rg (4 * ι 43 n0 2)) ∧
      Q (.inl (some (bi (4 * ι 43 n0 2)))) ι)) :
  bC sc 64 [br 7 n0, bi x1] ι Q := bm_snd 64 [] 10 h
-- L_codesOf
set_option maxRecDepth 100000 in
theorem e_L_codesOf_0 {sc : bm_Sc} {Q : bm_O → bm_S → Prop} {n0 : Int} {x1 : Int} {ι : bm_S}
  (h : (if x1 = (1 : Int) then
      (0 ≤ (1 : Int) ∧ (1 : Int) < (3 : Int)) ∧
      Q (.inl (some (bi (ι 43 n0 1)))) ι
    else
      (0 ≤ x1 ∧ 0 < (2 : Int)) ∧
      (0 ≤ x1 / 2 ∧ x1 / 2 < (2 : Int)) ∧
      Q (.inl (some (bi (ι 44 n0 (x1 / 2))))) ι)) :
  bC sc 65 [br 7 n0, bi x1] ι Q := bm_snd 65 [] 10 h
-- L_signsOf
set_option maxRecDepth 100000 in
theorem e_L_signsOf_0 {sc : bm_Sc} {Q : bm_O → bm_S → Prop} {n0 : Int} {x1 : Int} {ι : bm_S}
  (h : (if x1 = (0 : Int) then
      Q (.inl (some (bi 256))) ι
    else
      (if x1 = (1 : Int) then
        Q (.inl (some (bi 704))) ι
      else
        (bm_rg (16 + ι 7 n0 9)) ∧
        ((0 ≤ ι 7 n0 8 ∧ ι 7 n0 8 < 32) ∧ bm_rg (48 * bm_p2 (ι 7 n0 8))) ∧
        (bm_rg (16 + ι 7 n0 9 + 48 * bm_p2 (ι 7 n0 8))) ∧
        Q (.inl (some (bi (16 + ι 7 n0 9 + 48 * bm_p2 (ι 7 n0 8))))) ι))) :
  bC sc 66 [br 7 n0, bi x1] ι Q := bm_snd 66 [] 15 h
-- L_code
set_option maxRecDepth 100000 in
theorem e_L_code_0 {sc : bm_Sc} {Q : bm_O → bm_S → Prop} {n0 : Int} {x1 : Int} {x2 : Int} {ι : bm_S}
  (h : (if x1 = (0 : Int) then
      (0 ≤ min (max x2 0) 11 ∧ min (max x2 0) 11 < 12 ∧ n0 < 2) ∧
      Q (.inl (some (br 3 (36 * n0 + 3 * min (max x2 0) 11)))) ι
    else
      (if x1 = (1 : Int) then
        (0 ≤ min (max x2 0) 11 ∧ min (max x2 0) 11 < 12 ∧ n0 < 2) ∧
        Q (.inl (some (br 3 (36 * n0 + 3 * min (max x2 0) 11 + 1)))) ι
      else
        (0 ≤ min (max x2 0) 11 ∧ min (max x2 0) 11 < 12 ∧ n0 < 2) ∧
        Q (.inl (some (br 3 (36 * n0 + 3 * min (max x2 0) 11 + 2)))) ι))) :
  bC sc 67 [br 7 n0, bi x1, bi x2] ι Q := bm_snd 67 [] 17 h
-- K_start
set_option maxRecDepth 100000 in
theorem e_K_start_0 {sc : bm_Sc} {Q : bm_O → bm_S → Prop} {n0 : Int} {x1 : Int} {ι : bm_S}
  (h : Q (.inl none) (up (up (up (up ι 1 n0 2 x1) 1 n0 3 0) 1 n0 4 1) 1 n0 5 0)) :
  bC sc 10 [br 1 n0, bi x1] ι Q := bm_snd 10 [] 13 h
-- K_readCount
set_option maxRecDepth 100000 in
theorem e_K_readCount_0 {sc : bm_Sc} {Q : bm_O → bm_S → Prop} {n0 : Int} {ι : bm_S}
  (h : bC sc 5 [br 0 0, br 3 (75 + 2 * n0)] ι (bk1 (fun r1 ι1 => 
      (if (26 : Int) ≤ r1 then
        Q (.inl none) ι1
      else
        (0 ≤ r1 ∧ r1 < (26 : Int)) ∧
        (0 ≤ r1 ∧ r1 < (26 : Int)) ∧
        bC sc 4 [br 0 0, bi (bm_X sc 210 r1)] ι1 (bk1 (fun r2 ι2 => 
          (bm_rg (bm_X sc 209 r1 + r2)) ∧
          Q (.inl none) (up ι2 1 n0 5 (bm_X sc 209 r1 + r2))) (bq Q)))) (bq Q))) :
  bC sc 11 [br 1 n0, br 0 0] ι Q := bm_snd 11 [] 20 h
-- K_takeOne
set_option maxRecDepth 100000 in
theorem e_K_takeOne_0 {sc : bm_Sc} {Q : bm_O → bm_S → Prop} {n0 : Int} {ι : bm_S}
  (h : (if (2 : Int) ≤ ι 1 n0 2 then
      (if ι 1 n0 5 = (0 : Int) then
        bC sc 5 [br 0 0, br 3 (74 + 2 * n0)] ι (bk1 (fun r1 ι1 => 
          bC sc 13 [br 1 n0, bi r1] ι1 (bk0 (fun ι2 => 
            bC sc 11 [br 1 n0, br 0 0] ι2 (bk0 (fun ι3 => 
              (bm_rg (ι3 1 n0 5 - 1)) ∧
              Q (.inl none) (up ι3 1 n0 5 (ι3 1 n0 5 - 1))) (bq Q))) (bq Q))) (bq Q))
      else
        (bm_rg (ι 1 n0 5 - 1)) ∧
        Q (.inl none) (up ι 1 n0 5 (ι 1 n0 5 - 1)))
    else
      Q (.inl none) ι)) :
  bC sc 12 [br 1 n0, br 0 0] ι Q := bm_snd 12 [] 23 h
-- K_changeTo
set_option maxRecDepth 100000 in
theorem e_K_changeTo_0 {sc : bm_Sc} {Q : bm_O → bm_S → Prop} {n0 : Int} {x1 : Int} {ι : bm_S}
  (h : (bm_rg (x1 - 2)) ∧
    (if x1 = (0 : Int) then
      Q (.inl none) (up (up ι 1 n0 4 (ι 1 n0 3)) 1 n0 3 (min (ι 1 n0 4) 11))
    else
      (if x1 = (1 : Int) then
        (bm_rg (ι 1 n0 3 + 1)) ∧
        (if ι 1 n0 2 ≤ ι 1 n0 3 + 1 then
          Q (.inl none) (up (up ι 1 n0 4 (ι 1 n0 3)) 1 n0 3 (min 0 11))
        else
          (bm_rg (ι 1 n0 3 + 1)) ∧
          Q (.inl none) (up (up ι 1 n0 4 (ι 1 n0 3)) 1 n0 3 (min (ι 1 n0 3 + 1) 11)))
      else
        Q (.inl none) (up (up ι 1 n0 4 (ι 1 n0 3)) 1 n0 3 (min (x1 - 2) 11))))) :
  bC sc 13 [br 1 n0, bi x1] ι Q := bm_snd 13 [] 32 h
