-- M_fail
set_option maxRecDepth 100000 in
theorem e_M_fail_0 {sc : bm_Sc} {Q : bm_O → bm_S → Prop} {x1 : Int} {ι : bm_S}
  (h : Q (.inr (12, 0)) (up ι 12 0 6 x1)) :
  bC sc 152 [br 13 0, bi x1] ι Q := bm_snd 152 [] 7 h
-- M_feed
set_option maxRecDepth 100000 in
theorem e_M_feed_0 {sc : bm_Sc} {Q : bm_O → bm_S → Prop} {x1 : Int} {x2 : Int} {x3 : Int} {x4 : Int} {x5 : Int} {ι : bm_S}
  (h : (bm_rg (ι 13 0 3 + 20)) ∧
    (if ι 13 0 3 + 20 ≤ (2400 : Int) then
      bW sc 154 24 [br 13 0, bi x1, bi x2, bi x3, bi x4, bi x5, bi 0, bu] [] (up ι 13 0 0 0) Q
    else
      Q (.inl (some (bi (-3)))) (up ι 13 0 0 0))) :
  bC sc 154 [br 13 0, bi x1, bi x2, bi x3, bi x4, bi x5] ι Q := bm_snd 154 [24] 12 h
set_option maxRecDepth 100000 in
theorem e_M_feed_24 {sc : bm_Sc} {Q : bm_O → bm_S → Prop} {x1 : Int} {x2 : Int} {x3 : Int} {x4 : Int} {x5 : Int} {x6 : Int} {v7 : bm_V} {ι : bm_S}
  (h : (if (20 : Int) ≤ x6 then
      (bm_rg (ι 13 0 3 + 20)) ∧
      Q (.inl (some (bi (ι 13 0 3 + 20)))) (up (up ι 13 0 3 (ι 13 0 3 + 20)) 13 0 4 (-1))
    else
      (if (4 : Int) ≤ x6 then
        (if (8 : Int) ≤ x6 then
          (if (12 : Int) ≤ x6 then
            (if (16 : Int) ≤ x6 then
              (bm_rg (ι 13 0 3 + x6)) ∧
              (0 ≤ x6 ∧ 0 < (4 : Int)) ∧
              (bm_rg (8 * (x6 % 4))) ∧
              (bm_rg (24 - 8 * (x6 % 4))) ∧
              (0 ≤ ι 13 0 3 + x6 ∧ ι 13 0 3 + x6 < (2440 : Int)) ∧
              (bm_rg (x6 + 1)) ∧
              bW sc 154 24 [br 13 0, bi x1, bi x2, bi x3, bi x4, bi x5, bi (x6 + 1), bi x5] [] (up ι 66 0 (ι 13 0 3 + x6) (bm_byte (bm_byte (bm_ushr x5 (24 - 8 * (x6 % 4)))))) Q
            else
              (bm_rg (ι 13 0 3 + x6)) ∧
              (0 ≤ x6 ∧ 0 < (4 : Int)) ∧
              (bm_rg (8 * (x6 % 4))) ∧
              (bm_rg (24 - 8 * (x6 % 4))) ∧
              (0 ≤ ι 13 0 3 + x6 ∧ ι 13 0 3 + x6 < (2440 : Int)) ∧
              (bm_rg (x6 + 1)) ∧
              bW sc 154 24 [br 13 0, bi x1, bi x2, bi x3, bi x4, bi x5, bi (x6 + 1), bi x4] [] (up ι 66 0 (ι 13 0 3 + x6) (bm_byte (bm_byte (bm_ushr x4 (24 - 8 * (x6 % 4)))))) Q)
          else
            (bm_rg (ι 13 0 3 + x6)) ∧
            (0 ≤ x6 ∧ 0 < (4 : Int)) ∧
            (bm_rg (8 * (x6 % 4))) ∧
            (bm_rg (24 - 8 * (x6 % 4))) ∧
            (0 ≤ ι 13 0 3 + x6 ∧ ι 13 0 3 + x6 < (2440 : Int)) ∧
            (bm_rg (x6 + 1)) ∧
            bW sc 154 24 [br 13 0, bi x1, bi x2, bi x3, bi x4, bi x5, bi (x6 + 1), bi x3] [] (up ι 66 0 (ι 13 0 3 + x6) (bm_byte (bm_byte (bm_ushr x3 (24 - 8 * (x6 % 4)))))) Q)
        else
          (bm_rg (ι 13 0 3 + x6)) ∧
          (0 ≤ x6 ∧ 0 < (4 : Int)) ∧
          (bm_rg (8 * (x6 % 4))) ∧
          (bm_rg (24 - 8 * (x6 % 4))) ∧
          (0 ≤ ι 13 0 3 + x6 ∧ ι 13 0 3 + x6 < (2440 : Int)) ∧
          (bm_rg (x6 + 1)) ∧
          bW sc 154 24 [br 13 0, bi x1, bi x2, bi x3, bi x4, bi x5, bi (x6 + 1), bi x2] [] (up ι 66 0 (ι 13 0 3 + x6) (bm_byte (bm_byte (bm_ushr x2 (24 - 8 * (x6 % 4)))))) Q)
      else
        (bm_rg (ι 13 0 3 + x6)) ∧
        (0 ≤ x6 ∧ 0 < (4 : Int)) ∧
        (bm_rg (8 * (x6 % 4))) ∧
        (bm_rg (24 - 8 * (x6 % 4))) ∧
        (0 ≤ ι 13 0 3 + x6 ∧ ι 13 0 3 + x6 < (2440 : Int)) ∧
        (bm_rg (x6 + 1)) ∧
        bW sc 154 24 [br 13 0, bi x1, bi x2, bi x3, bi x4, bi x5, bi (x6 + 1), bi x1] [] (up ι 66 0 (ι 13 0 3 + x6) (bm_byte (bm_byte (bm_ushr x1 (24 - 8 * (x6 % 4)))))) Q))) :
  bW sc 154 24 [br 13 0, bi x1, bi x2, bi x3, bi x4, bi x5, bi x6, v7] [] ι Q := bm_snd 154 [24] 38 h
-- M_end
set_option maxRecDepth 100000 in
theorem e_M_end_0 {sc : bm_Sc} {Q : bm_O → bm_S → Prop} {x1 : Int} {ι : bm_S}
  (h : (if (if (0 : Int) ≤ x1 ∧ x1 ≤ (20 : Int) then (1 : Int) else 0) = (0 : Int) then
      Q (.inl (some (bi (-1)))) (up ι 13 0 0 0)
    else
      (if (20 : Int) ≤ ι 13 0 3 then
        (bm_rg (ι 13 0 3 + x1)) ∧
        (bm_rg (ι 13 0 3 + x1 - 20)) ∧
        Q (.inl (some (bi (ι 13 0 3 + x1 - 20)))) (up (up (up ι 13 0 0 0) 13 0 3 (ι 13 0 3 + x1 - 20)) 13 0 4 (-1))
      else
        Q (.inl (some (bi (-1)))) (up ι 13 0 0 0)))) :
  bC sc 155 [br 13 0, bi x1] ι Q := bm_snd 155 [] 27 h
-- M_bits
set_option maxRecDepth 100000 in
theorem e_M_bits_0 {sc : bm_Sc} {Q : bm_O → bm_S → Prop} {x1 : Int} {x2 : Int} {ι : bm_S}
  (h : (if (if (1 : Int) ≤ x2 ∧ x2 ≤ (32 : Int) then (1 : Int) else 0) = (0 : Int) then
      Q (.inl (some (bi (-1)))) (up ι 13 0 0 0)
    else
      (if (0 : Int) ≤ ι 13 0 4 then
        (bm_rg (ι 13 0 4 + x2)) ∧
        (if ι 13 0 4 + x2 ≤ (19200 : Int) then
          bW sc 156 56 [br 13 0, bi x1, bi x2, bi (ι 13 0 4), bi 0, bu] [] (up ι 13 0 0 0) Q
        else
          Q (.inl (some (bi (-3)))) (up ι 13 0 0 0))
      else
        (bm_rg (8 * ι 13 0 3)) ∧
        (bm_rg (8 * ι 13 0 3 + x2)) ∧
        (if 8 * ι 13 0 3 + x2 ≤ (19200 : Int) then
          bW sc 156 56 [br 13 0, bi x1, bi x2, bi (8 * ι 13 0 3), bi 0, bu] [] (up ι 13 0 0 0) Q
        else
          Q (.inl (some (bi (-3)))) (up ι 13 0 0 0))))) :
  bC sc 156 [br 13 0, bi x1, bi x2] ι Q := bm_snd 156 [56] 26 h
set_option maxRecDepth 100000 in
theorem e_M_bits_56 {sc : bm_Sc} {Q : bm_O → bm_S → Prop} {x1 : Int} {x2 : Int} {x3 : Int} {x4 : Int} {v5 : bm_V} {ι : bm_S}
  (h : (if x2 ≤ x4 then
      (bm_rg (x3 + x2)) ∧
      Q (.inl (some (bi (x3 + x2)))) (up ι 13 0 4 (x3 + x2))
    else
      (bm_rg (x3 + x4)) ∧
      (0 ≤ x3 + x4 ∧ 0 < (8 : Int)) ∧
      (if (x3 + x4) / 8 < ι 13 0 3 then
        (if bm_ushr x1 x4 % 2 = (1 : Int) then
          (0 ≤ x3 + x4 ∧ 0 < (8 : Int)) ∧
          (0 ≤ x3 + x4 ∧ 0 < (8 : Int)) ∧
          (0 ≤ (x3 + x4) / 8 ∧ (x3 + x4) / 8 < (2440 : Int)) ∧
          (0 ≤ x3 + x4 ∧ 0 < (8 : Int)) ∧
          ((0 ≤ (x3 + x4) % 8 ∧ (x3 + x4) % 8 < 32) ∧ bm_rg (1 * bm_p2 ((x3 + x4) % 8))) ∧
          (0 ≤ (x3 + x4) / 8 ∧ (x3 + x4) / 8 < (2440 : Int)) ∧
          (bm_rg (x4 + 1)) ∧
          bW sc 156 56 [br 13 0, bi x1, bi x2, bi x3, bi (x4 + 1), bi (x3 + x4)] [] (up ι 66 0 ((x3 + x4) / 8) (bm_byte (bm_byte (bm_or (ι 66 0 ((x3 + x4) / 8)) (1 * bm_p2 ((x3 + x4) % 8)))))) Q
        else
          (bm_rg (x4 + 1)) ∧
          bW sc 156 56 [br 13 0, bi x1, bi x2, bi x3, bi (x4 + 1), bi (x3 + x4)] [] ι Q)
      else
        (0 ≤ ι 13 0 3 ∧ ι 13 0 3 < (2440 : Int)) ∧
        (bm_rg (ι 13 0 3 + 1)) ∧
        (if bm_ushr x1 x4 % 2 = (1 : Int) then
          (0 ≤ x3 + x4 ∧ 0 < (8 : Int)) ∧
          (0 ≤ x3 + x4 ∧ 0 < (8 : Int)) ∧
          (0 ≤ (x3 + x4) / 8 ∧ (x3 + x4) / 8 < (2440 : Int)) ∧
          (0 ≤ x3 + x4 ∧ 0 < (8 : Int)) ∧
          ((0 ≤ (x3 + x4) % 8 ∧ (x3 + x4) % 8 < 32) ∧ bm_rg (1 * bm_p2 ((x3 + x4) % 8))) ∧
          (0 ≤ (x3 + x4) / 8 ∧ (x3 + x4) / 8 < (2440 : Int)) ∧
          (bm_rg (x4 + 1)) ∧
          bW sc 156 56 [br 13 0, bi x1, bi x2, bi x3, bi (x4 + 1), bi (x3 + x4)] [] (up (up (up ι 66 0 (ι 13 0 3) (bm_byte 0)) 13 0 3 (ι 13 0 3 + 1)) 66 0 ((x3 + x4) / 8) (bm_byte (bm_byte (bm_or ((up ι 66 0 (ι 13 0 3) (bm_byte 0)) 66 0 ((x3 + x4) / 8)) (1 * bm_p2 ((x3 + x4) % 8)))))) Q
        else
          (bm_rg (x4 + 1)) ∧
          bW sc 156 56 [br 13 0, bi x1, bi x2, bi x3, bi (x4 + 1), bi (x3 + x4)] [] (up (up ι 66 0 (ι 13 0 3) (bm_byte 0)) 13 0 3 (ι 13 0 3 + 1)) Q)))) :
  bW sc 156 56 [br 13 0, bi x1, bi x2, bi x3, bi x4, v5] [] ι Q := bm_snd 156 [56] 54 h
-- M_spoil
set_option maxRecDepth 100000 in
theorem e_M_spoil_0 {sc : bm_Sc} {Q : bm_O → bm_S → Prop} {x1 : Int} {x2 : Int} {ι : bm_S}
  (h : (bm_rg (ι 13 0 3 - 1)) ∧
    (if (if (0 : Int) ≤ x1 ∧ x1 ≤ ι 13 0 3 - 1 then (1 : Int) else 0) = (0 : Int) then
      Q (.inl (some (bi (-1)))) (up ι 13 0 0 0)
    else
      (if (if (1 : Int) ≤ x2 ∧ x2 ≤ (255 : Int) then (1 : Int) else 0) = (0 : Int) then
        Q (.inl (some (bi (-1)))) (up ι 13 0 0 0)
      else
        (0 ≤ x1 ∧ x1 < (2440 : Int)) ∧
        (0 ≤ x1 ∧ x1 < (2440 : Int)) ∧
        (0 ≤ x1 ∧ x1 < (2440 : Int)) ∧
        Q (.inl (some (bi ((up (up ι 13 0 0 0) 66 0 x1 (bm_byte (bm_byte (bm_xor (ι 66 0 x1) x2)))) 66 0 x1 % 256)))) (up (up (up ι 13 0 0 0) 66 0 x1 (bm_byte (bm_byte (bm_xor (ι 66 0 x1) x2)))) 13 0 4 (-1))))) :
  bC sc 157 [br 13 0, bi x1, bi x2] ι Q := bm_snd 157 [] 40 h
-- M_emptyTape
set_option maxRecDepth 100000 in
theorem e_M_emptyTape_0 {sc : bm_Sc} {Q : bm_O → bm_S → Prop}  {ι : bm_S}
  (h : Q (.inl none) (up (up ι 13 0 3 0) 13 0 4 (-1))) :
  bC sc 158 [br 13 0] ι Q := bm_snd 158 [] 7 h
-- M_wipe
set_option maxRecDepth 100000 in
theorem e_M_wipe_0 {sc : bm_Sc} {Q : bm_O → bm_S → Prop}  {ι : bm_S}
  (h : bC sc 158 [br 13 0] (up ι 13 0 0 0) (bk0 (fun ι1 => 
      Q (.inl (some (bi (ι 13 0 3)))) ι1) (bq Q))) :
  bC sc 159 [br 13 0] ι Q := bm_snd 159 [] 10 h
-- M_wordAt
set_option maxRecDepth 100000 in
theorem e_M_wordAt_0 {sc : bm_Sc} {Q : bm_O → bm_S → Prop} {v0 : bm_V} {x1 : Int} {x2 : Int} {ι : bm_S}
  (h : (bm_rg (x1 - 4)) ∧
    (bm_rg (320 * (x1 - 4))) ∧
    (bm_rg (10 * x2)) ∧
    (bm_rg (320 * (x1 - 4) + 10 * x2)) ∧
    Q (.inl (some (bi (320 * (x1 - 4) + 10 * x2)))) ι) :
  bC sc 160 [v0, bi x1, bi x2] ι Q := bm_snd 160 [] 10 h
-- M_word
set_option maxRecDepth 100000 in
theorem e_M_word_0 {sc : bm_Sc} {Q : bm_O → bm_S → Prop}  {ι : bm_S}
  (h : (if (if (4 : Int) ≤ ι 13 0 3 ∧ ι 13 0 3 ≤ (10 : Int) then (1 : Int) else 0) = (0 : Int) then
      Q (.inl (some (bi (-1)))) (up ι 13 0 0 0)
    else
      (0 ≤ ι 13 0 3 ∧ ι 13 0 3 < (11 : Int)) ∧
      (if ι 69 0 (ι 13 0 3) = (32 : Int) then
        Q (.inl (some (bi (-3)))) (up ι 13 0 0 0)
      else
        bW sc 161 45 [br 13 0, bi (ι 13 0 3), bi 0] [] (up ι 13 0 0 0) Q))) :
  bC sc 161 [br 13 0] ι Q := bm_snd 161 [45] 22 h
set_option maxRecDepth 100000 in
theorem e_M_word_45 {sc : bm_Sc} {Q : bm_O → bm_S → Prop} {x1 : Int} {x2 : Int} {ι : bm_S}
  (h : (if x1 ≤ x2 then
      (0 ≤ x1 ∧ x1 < (11 : Int)) ∧
      (bm_rg (ι 69 0 x1 + 1)) ∧
      (0 ≤ x1 ∧ x1 < (11 : Int)) ∧
      bC sc 158 [br 13 0] (up ι 69 0 x1 (ι 69 0 x1 + 1)) (bk0 (fun ι1 => 
        (0 ≤ x1 ∧ x1 < (11 : Int)) ∧
        Q (.inl (some (bi (ι1 69 0 x1)))) ι1) (bq Q))
    else
      (0 ≤ x1 ∧ x1 < (11 : Int)) ∧
      bC sc 160 [br 13 0, bi x1, bi (ι 69 0 x1)] ι (bk1 (fun r2 ι2 => 
        (bm_rg (r2 + x2)) ∧
        (0 ≤ x2 ∧ x2 < (2440 : Int)) ∧
        (0 ≤ r2 + x2 ∧ r2 + x2 < (2240 : Int)) ∧
        (bm_rg (x2 + 1)) ∧
        bW sc 161 45 [br 13 0, bi x1, bi (x2 + 1)] [] (up ι2 68 0 (r2 + x2) (bm_byte (ι2 66 0 x2))) Q) (bq Q)))) :
  bW sc 161 45 [br 13 0, bi x1, bi x2] [] ι Q := bm_snd 161 [45] 22 h
-- M_allWords
set_option maxRecDepth 100000 in
theorem e_M_allWords_0 {sc : bm_Sc} {Q : bm_O → bm_S → Prop}  {ι : bm_S}
  (h : bW sc 162 4 [br 13 0, bi 0, bi 4] [] ι Q) :
  bC sc 162 [br 13 0] ι Q := bm_snd 162 [4] 5 h
set_option maxRecDepth 100000 in
theorem e_M_allWords_4 {sc : bm_Sc} {Q : bm_O → bm_S → Prop} {x1 : Int} {x2 : Int} {ι : bm_S}
  (h : (if (10 : Int) < x2 then
      Q (.inl (some (bi x1))) ι
    else
      (0 ≤ x2 ∧ x2 < (11 : Int)) ∧
      (bm_rg (x1 + ι 69 0 x2)) ∧
      (bm_rg (x2 + 1)) ∧
      bW sc 162 4 [br 13 0, bi (x1 + ι 69 0 x2), bi (x2 + 1)] [] ι Q)) :
  bW sc 162 4 [br 13 0, bi x1, bi x2] [] ι Q := bm_snd 162 [4] 13 h
-- M_clear
set_option maxRecDepth 100000 in
theorem e_M_clear_0 {sc : bm_Sc} {Q : bm_O → bm_S → Prop}  {ι : bm_S}
  (h : bC sc 162 [br 13 0] (up ι 13 0 0 0) (bk1 (fun r1 ι1 => 
      bW sc 163 12 [br 13 0, bi r1, bi 4] [] ι1 Q) (bq Q))) :
  bC sc 163 [br 13 0] ι Q := bm_snd 163 [12] 9 h
set_option maxRecDepth 100000 in
theorem e_M_clear_12 {sc : bm_Sc} {Q : bm_O → bm_S → Prop} {x1 : Int} {x2 : Int} {ι : bm_S}
  (h : (if (10 : Int) < x2 then
      Q (.inl (some (bi x1))) ι
    else
      (0 ≤ x2 ∧ x2 < (11 : Int)) ∧
      (bm_rg (x2 + 1)) ∧
      bW sc 163 12 [br 13 0, bi x1, bi (x2 + 1)] [] (up ι 69 0 x2 0) Q)) :
  bW sc 163 12 [br 13 0, bi x1, bi x2] [] ι Q := bm_snd 163 [12] 11 h
-- M_digestNow
set_option maxRecDepth 100000 in
theorem e_M_digestNow_0 {sc : bm_Sc} {Q : bm_O → bm_S → Prop}  {ι : bm_S}
  (h : bW sc 164 6 [br 13 0, bi 5381, bi 4, bu, bu] [] ι Q) :
  bC sc 164 [br 13 0] ι Q := bm_snd 164 [6, 29, 42] 5 h
set_option maxRecDepth 100000 in
theorem e_M_digestNow_6 {sc : bm_Sc} {Q : bm_O → bm_S → Prop} {x1 : Int} {x2 : Int} {v3 : bm_V} {v4 : bm_V} {ι : bm_S}
  (h : (if (10 : Int) < x2 then
      Q (.inl (some (bi x1))) ι
    else
      (bm_rg (33 * x1)) ∧
      (0 ≤ x2 ∧ x2 < (11 : Int)) ∧
      bW sc 164 29 [br 13 0, bi (bm_xor (33 * x1) (ι 69 0 x2) % 65536), bi x2, bi 0, v4] [] ι Q)) :
  bW sc 164 6 [br 13 0, bi x1, bi x2, v3, v4] [] ι Q := bm_snd 164 [6, 29, 42] 17 h
set_option maxRecDepth 100000 in
theorem e_M_digestNow_29 {sc : bm_Sc} {Q : bm_O → bm_S → Prop} {x1 : Int} {x2 : Int} {x3 : Int} {v4 : bm_V} {ι : bm_S}
  (h : (0 ≤ x2 ∧ x2 < (11 : Int)) ∧
    (if ι 69 0 x2 ≤ x3 then
      (bm_rg (x2 + 1)) ∧
      bW sc 164 6 [br 13 0, bi x1, bi (x2 + 1), bi x3, v4] [] ι Q
    else
      bW sc 164 42 [br 13 0, bi x1, bi x2, bi x3, bi 0] [] ι Q)) :
  bW sc 164 29 [br 13 0, bi x1, bi x2, bi x3, v4] [] ι Q := bm_snd 164 [6, 29, 42] 9 h
set_option maxRecDepth 100000 in
theorem e_M_digestNow_42 {sc : bm_Sc} {Q : bm_O → bm_S → Prop} {x1 : Int} {x2 : Int} {x3 : Int} {x4 : Int} {ι : bm_S}
  (h : (if x2 ≤ x4 then
      (bm_rg (x3 + 1)) ∧
      bW sc 164 29 [br 13 0, bi x1, bi x2, bi (x3 + 1), bi x4] [] ι Q
    else
      (bm_rg (33 * x1)) ∧
      bC sc 160 [br 13 0, bi x2, bi x3] ι (bk1 (fun r1 ι1 => 
        (bm_rg (r1 + x4)) ∧
        (0 ≤ r1 + x4 ∧ r1 + x4 < (2240 : Int)) ∧
        (bm_rg (x4 + 1)) ∧
        bW sc 164 42 [br 13 0, bi (bm_xor (33 * x1) (ι1 68 0 (r1 + x4) % 256) % 65536), bi x2, bi x3, bi (x4 + 1)] [] ι1 Q) (bq Q)))) :
  bW sc 164 42 [br 13 0, bi x1, bi x2, bi x3, bi x4] [] ι Q := bm_snd 164 [6, 29, 42] 24 h
-- M_digest
set_option maxRecDepth 100000 in
theorem e_M_digest_0 {sc : bm_Sc} {Q : bm_O → bm_S → Prop}  {ι : bm_S}
  (h : bC sc 164 [br 13 0] (up ι 13 0 0 0) (bk1 (fun r1 ι1 => 
      Q (.inl (some (bi r1))) ι1) (bq Q))) :
  bC sc 165 [br 13 0] ι Q := bm_snd 165 [] 6 h
-- M_bitsOf
set_option maxRecDepth 100000 in
theorem e_M_bitsOf_0 {sc : bm_Sc} {Q : bm_O → bm_S → Prop} {x1 : Int} {ι : bm_S}
  (h : bW sc 166 2 [br 13 0, bi x1, bi 0] [] ι Q) :
  bC sc 166 [br 13 0, bi x1] ι Q := bm_snd 166 [2] 3 h
set_option maxRecDepth 100000 in
theorem e_M_bitsOf_2 {sc : bm_Sc} {Q : bm_O → bm_S → Prop} {x1 : Int} {x2 : Int} {ι : bm_S}
  (h : ((0 ≤ x2 ∧ x2 < 32) ∧ bm_rg (1 * bm_p2 x2)) ∧
    (0 ≤ x1 ∧ x1 < (11 : Int)) ∧
    (if ι 69 0 x1 ≤ 1 * bm_p2 x2 then
      Q (.inl (some (bi x2))) ι
    else
      (bm_rg (x2 + 1)) ∧
      bW sc 166 2 [br 13 0, bi x1, bi (x2 + 1)] [] ι Q)) :
  bW sc 166 2 [br 13 0, bi x1, bi x2] [] ι Q := bm_snd 166 [2] 11 h
-- M_putChanged
set_option maxRecDepth 100000 in
theorem e_M_putChanged_0 {sc : bm_Sc} {Q : bm_O → bm_S → Prop} {x1 : Int} {ι : bm_S}
  (h : (0 ≤ ι 13 0 10 ∧ ι 13 0 10 < (20 : Int)) ∧
    (bm_rg (ι 13 0 10 + 1)) ∧
    Q (.inl none) (up (up ι 70 0 (ι 13 0 10) (bm_byte (bm_byte x1))) 13 0 10 (ι 13 0 10 + 1))) :
  bC sc 167 [br 13 0, bi x1] ι Q := bm_snd 167 [] 14 h
-- M_change
set_option maxRecDepth 100000 in
theorem e_M_change_0 {sc : bm_Sc} {Q : bm_O → bm_S → Prop} {x1 : Int} {x2 : Int} {x3 : Int} {ι : bm_S}
  (h : (0 ≤ x3 ∧ 0 < (6 : Int)) ∧
    (0 ≤ x3 ∧ 0 < (6 : Int)) ∧
    (if x3 / 6 = (2 : Int) then
      bC sc 167 [br 13 0, bi 32] (up ι 13 0 10 0) (bk0 (fun ι1 => 
        (if x3 % 6 = (3 : Int) then
          (if x3 % 6 = (4 : Int) then
            (bm_rg (x1 - 1)) ∧
            bW sc 168 73 [br 13 0, bi x1, bi x2, bi x3, bi (x3 % 6), bi (x3 / 6), bi 1, bi (x1 - 1), bi 1, bu, bu] [] ι1 Q
          else
            (if x3 % 6 = (5 : Int) then
              (bm_rg (x1 - 2)) ∧
              bW sc 168 73 [br 13 0, bi x1, bi x2, bi x3, bi (x3 % 6), bi (x3 / 6), bi 1, bi (x1 - 2), bi 1, bu, bu] [] ι1 Q
            else
              bW sc 168 73 [br 13 0, bi x1, bi x2, bi x3, bi (x3 % 6), bi (x3 / 6), bi 1, bi x1, bi 1, bu, bu] [] ι1 Q))
        else
          (if x3 % 6 = (4 : Int) then
            (bm_rg (x1 - 1)) ∧
            bW sc 168 73 [br 13 0, bi x1, bi x2, bi x3, bi (x3 % 6), bi (x3 / 6), bi 0, bi (x1 - 1), bi 0, bu, bu] [] ι1 Q
          else
            (if x3 % 6 = (5 : Int) then
              (bm_rg (x1 - 2)) ∧
              bW sc 168 73 [br 13 0, bi x1, bi x2, bi x3, bi (x3 % 6), bi (x3 / 6), bi 0, bi (x1 - 2), bi 0, bu, bu] [] ι1 Q
            else
              bW sc 168 73 [br 13 0, bi x1, bi x2, bi x3, bi (x3 % 6), bi (x3 / 6), bi 0, bi x1, bi 0, bu, bu] [] ι1 Q)))) (bq Q))
    else
      (if x3 % 6 = (3 : Int) then
        (if x3 % 6 = (4 : Int) then
          (bm_rg (x1 - 1)) ∧
          bW sc 168 73 [br 13 0, bi x1, bi x2, bi x3, bi (x3 % 6), bi (x3 / 6), bi 1, bi (x1 - 1), bi 1, bu, bu] [] (up ι 13 0 10 0) Q
        else
          (if x3 % 6 = (5 : Int) then
            (bm_rg (x1 - 2)) ∧
            bW sc 168 73 [br 13 0, bi x1, bi x2, bi x3, bi (x3 % 6), bi (x3 / 6), bi 1, bi (x1 - 2), bi 1, bu, bu] [] (up ι 13 0 10 0) Q
          else
            bW sc 168 73 [br 13 0, bi x1, bi x2, bi x3, bi (x3 % 6), bi (x3 / 6), bi 1, bi x1, bi 1, bu, bu] [] (up ι 13 0 10 0) Q))
      else
        (if x3 % 6 = (4 : Int) then
          (bm_rg (x1 - 1)) ∧
          bW sc 168 73 [br 13 0, bi x1, bi x2, bi x3, bi (x3 % 6), bi (x3 / 6), bi 0, bi (x1 - 1), bi 0, bu, bu] [] (up ι 13 0 10 0) Q
        else
          (if x3 % 6 = (5 : Int) then
            (bm_rg (x1 - 2)) ∧
            bW sc 168 73 [br 13 0, bi x1, bi x2, bi x3, bi (x3 % 6), bi (x3 / 6), bi 0, bi (x1 - 2), bi 0, bu, bu] [] (up ι 13 0 10 0) Q
          else
            bW sc 168 73 [br 13 0, bi x1, bi x2, bi x3, bi (x3 % 6), bi (x3 / 6), bi 0, bi x1, bi 0, bu, bu] [] (up ι 13 0 10 0) Q))))) :
  bC sc 168 [br 13 0, bi x1, bi x2, bi x3] ι Q := bm_snd 168 [73] 37 h
set_option maxRecDepth 100000 in
theorem e_M_change_73 {sc : bm_Sc} {Q : bm_O → bm_S → Prop} {x1 : Int} {x2 : Int} {v3 : bm_V} {x4 : Int} {x5 : Int} {v6 : bm_V} {x7 : Int} {x8 : Int} {v9 : bm_V} {v10 : bm_V} {ι : bm_S}
  (h : (if x7 ≤ x8 then
      (if x5 = (3 : Int) then
        bC sc 167 [br 13 0, bi 44] ι (bk0 (fun ι3 => 
          (if x5 = (1 : Int) then
            bC sc 167 [br 13 0, bi 32] ι3 (bk0 (fun ι4 => 
              Q (.inl none) ι4) (bq Q))
          else
            (if x5 = (3 : Int) then
              bC sc 167 [br 13 0, bi 32] ι3 (bk0 (fun ι5 => 
                Q (.inl none) ι5) (bq Q))
            else
              Q (.inl none) ι3))) (bq Q))
      else
        (if x5 = (1 : Int) then
          bC sc 167 [br 13 0, bi 32] ι (bk0 (fun ι1 => 
            Q (.inl none) ι1) (bq Q))
        else
          (if x5 = (3 : Int) then
            bC sc 167 [br 13 0, bi 32] ι (bk0 (fun ι2 => 
              Q (.inl none) ι2) (bq Q))
          else
            Q (.inl none) ι)))
    else
      bC sc 160 [br 13 0, bi x1, bi x2] ι (bk1 (fun r6 ι6 => 
        (bm_rg (r6 + x8)) ∧
        (0 ≤ r6 + x8 ∧ r6 + x8 < (2240 : Int)) ∧
        (if ι6 68 0 (r6 + x8) < (97 : Int) then
          bC sc 167 [br 13 0, bi (ι6 68 0 (r6 + x8))] ι6 (bk0 (fun ι7 => 
            (bm_rg (x8 + 1)) ∧
            bW sc 168 73 [br 13 0, bi x1, bi x2, v3, bi x4, bi x5, v6, bi x7, bi (x8 + 1), bi (ι6 68 0 (r6 + x8)), bi 0] [] ι7 Q) (bq Q))
        else
          (if (122 : Int) < ι6 68 0 (r6 + x8) then
            bC sc 167 [br 13 0, bi (ι6 68 0 (r6 + x8))] ι6 (bk0 (fun ι8 => 
              (bm_rg (x8 + 1)) ∧
              bW sc 168 73 [br 13 0, bi x1, bi x2, v3, bi x4, bi x5, v6, bi x7, bi (x8 + 1), bi (ι6 68 0 (r6 + x8)), bi 0] [] ι8 Q) (bq Q))
          else
            (if x4 = (2 : Int) then
              (bm_rg (ι6 68 0 (r6 + x8) - 32)) ∧
              bC sc 167 [br 13 0, bi (ι6 68 0 (r6 + x8) - 32)] ι6 (bk0 (fun ι9 => 
                (bm_rg (x8 + 1)) ∧
                bW sc 168 73 [br 13 0, bi x1, bi x2, v3, bi x4, bi x5, v6, bi x7, bi (x8 + 1), bi (ι6 68 0 (r6 + x8)), bi 1] [] ι9 Q) (bq Q))
            else
              (if x4 = (1 : Int) then
                (if x8 = (0 : Int) then
                  (bm_rg (ι6 68 0 (r6 + x8) - 32)) ∧
                  bC sc 167 [br 13 0, bi (ι6 68 0 (r6 + x8) - 32)] ι6 (bk0 (fun ι12 => 
                    (bm_rg (x8 + 1)) ∧
                    bW sc 168 73 [br 13 0, bi x1, bi x2, v3, bi x4, bi x5, v6, bi x7, bi (x8 + 1), bi (ι6 68 0 (r6 + x8)), bi 1] [] ι12 Q) (bq Q))
                else
                  bC sc 167 [br 13 0, bi (ι6 68 0 (r6 + x8))] ι6 (bk0 (fun ι11 => 
                    (bm_rg (x8 + 1)) ∧
                    bW sc 168 73 [br 13 0, bi x1, bi x2, v3, bi x4, bi x5, v6, bi x7, bi (x8 + 1), bi (ι6 68 0 (r6 + x8)), bi 1] [] ι11 Q) (bq Q)))
              else
                bC sc 167 [br 13 0, bi (ι6 68 0 (r6 + x8))] ι6 (bk0 (fun ι10 => 
                  (bm_rg (x8 + 1)) ∧
                  bW sc 168 73 [br 13 0, bi x1, bi x2, v3, bi x4, bi x5, v6, bi x7, bi (x8 + 1), bi (ι6 68 0 (r6 + x8)), bi 1] [] ι10 Q) (bq Q))))))) (bq Q)))) :
  bW sc 168 73 [br 13 0, bi x1, bi x2, v3, bi x4, bi x5, v6, bi x7, bi x8, v9, v10] [] ι Q := bm_snd 168 [73] 41 h
-- M_changed
set_option maxRecDepth 100000 in
theorem e_M_changed_0 {sc : bm_Sc} {Q : bm_O → bm_S → Prop} {x1 : Int} {x2 : Int} {x3 : Int} {x4 : Int} {ι : bm_S}
  (h : (if (if (4 : Int) ≤ x1 ∧ x1 ≤ (10 : Int) then (1 : Int) else 0) = (0 : Int) then
      Q (.inl (some (bi (-1)))) (up ι 13 0 0 0)
    else
      (if (if (4 : Int) ≤ x1 ∧ x1 ≤ (10 : Int) then (1 : Int) else 0) = (0 : Int) then
        (0 ≤ (4 : Int) ∧ (4 : Int) < (11 : Int)) ∧
        (bm_rg (ι 69 0 4 - 1)) ∧
        (if (if (0 : Int) ≤ x2 ∧ x2 ≤ ι 69 0 4 - 1 then (1 : Int) else 0) = (0 : Int) then
          Q (.inl (some (bi (-1)))) (up ι 13 0 0 0)
        else
          (if (if (0 : Int) ≤ x3 ∧ x3 ≤ (23 : Int) then (1 : Int) else 0) = (0 : Int) then
            Q (.inl (some (bi (-1)))) (up ι 13 0 0 0)
          else
            bC sc 168 [br 13 0, bi x1, bi x2, bi x3] (up ι 13 0 0 0) (bk0 (fun ι1 => 
              (if x4 = (-1 : Int) then
                Q (.inl (some (bi (ι1 13 0 10)))) ι1
              else
                (bm_rg (ι1 13 0 10 - 1)) ∧
                (if (if (0 : Int) ≤ x4 ∧ x4 ≤ ι1 13 0 10 - 1 then (1 : Int) else 0) = (0 : Int) then
                  Q (.inl (some (bi (-1)))) ι1
                else
                  (0 ≤ x4 ∧ x4 < (20 : Int)) ∧
                  Q (.inl (some (bi (ι1 70 0 x4 % 256)))) ι1))) (bq Q))))
      else
        (0 ≤ x1 ∧ x1 < (11 : Int)) ∧
        (bm_rg (ι 69 0 x1 - 1)) ∧
        (if (if (0 : Int) ≤ x2 ∧ x2 ≤ ι 69 0 x1 - 1 then (1 : Int) else 0) = (0 : Int) then
          Q (.inl (some (bi (-1)))) (up ι 13 0 0 0)
        else
          (if (if (0 : Int) ≤ x3 ∧ x3 ≤ (23 : Int) then (1 : Int) else 0) = (0 : Int) then
            Q (.inl (some (bi (-1)))) (up ι 13 0 0 0)
          else
            bC sc 168 [br 13 0, bi x1, bi x2, bi x3] (up ι 13 0 0 0) (bk0 (fun ι2 => 
              (if x4 = (-1 : Int) then
                Q (.inl (some (bi (ι2 13 0 10)))) ι2
              else
                (bm_rg (ι2 13 0 10 - 1)) ∧
                (if (if (0 : Int) ≤ x4 ∧ x4 ≤ ι2 13 0 10 - 1 then (1 : Int) else 0) = (0 : Int) then
                  Q (.inl (some (bi (-1)))) ι2
                else
                  (0 ≤ x4 ∧ x4 < (20 : Int)) ∧
                  Q (.inl (some (bi (ι2 70 0 x4 % 256)))) ι2))) (bq Q))))))) :
  bC sc 169 [br 13 0, bi x1, bi x2, bi x3, bi x4] ι Q := bm_snd 169 [] 60 h
-- M_distanceSigns
set_option maxRecDepth 100000 in
theorem e_M_distanceSigns_0 {sc : bm_Sc} {Q : bm_O → bm_S → Prop}  {ι : bm_S}
  (h : (bm_rg (16 + ι 13 0 23)) ∧
    ((0 ≤ ι 13 0 22 ∧ ι 13 0 22 < 32) ∧ bm_rg (48 * bm_p2 (ι 13 0 22))) ∧
    (bm_rg (16 + ι 13 0 23 + 48 * bm_p2 (ι 13 0 22))) ∧
    Q (.inl (some (bi (16 + ι 13 0 23 + 48 * bm_p2 (ι 13 0 22))))) ι) :
  bC sc 170 [br 13 0] ι Q := bm_snd 170 [] 10 h
-- M_layCodes
set_option maxRecDepth 100000 in
theorem e_M_layCodes_0 {sc : bm_Sc} {Q : bm_O → bm_S → Prop} {x1 : Int} {x2 : Int} {ι : bm_S}
  (h : bW sc 171 5 [br 13 0, bi x1, bi x2, bi 0, bi 1, bu] [] ι Q) :
  bC sc 171 [br 13 0, bi x1, bi x2] ι Q := bm_snd 171 [5, 15] 5 h
set_option maxRecDepth 100000 in
theorem e_M_layCodes_5 {sc : bm_Sc} {Q : bm_O → bm_S → Prop} {x1 : Int} {x2 : Int} {x3 : Int} {x4 : Int} {v5 : bm_V} {ι : bm_S}
  (h : (if (15 : Int) < x4 then
      Q (.inl none) ι
    else
      bW sc 171 15 [br 13 0, bi x1, bi x2, bi x3, bi x4, bi 0] [] ι Q)) :
  bW sc 171 5 [br 13 0, bi x1, bi x2, bi x3, bi x4, v5] [] ι Q := bm_snd 171 [5, 15] 6 h
set_option maxRecDepth 100000 in
theorem e_M_layCodes_15 {sc : bm_Sc} {Q : bm_O → bm_S → Prop} {x1 : Int} {x2 : Int} {x3 : Int} {x4 : Int} {x5 : Int} {ι : bm_S}
  (h : (if x2 ≤ x5 then
      (bm_rg (2 * x3)) ∧
      (bm_rg (x4 + 1)) ∧
      bW sc 171 5 [br 13 0, bi x1, bi x2, bi (2 * x3), bi (x4 + 1), bi x5] [] ι Q
    else
      (bm_rg (x1 + x5)) ∧
      (0 ≤ x1 + x5 ∧ x1 + x5 < (18000 : Int)) ∧
      (if ι 71 0 (x1 + x5) = x4 then
        (bm_rg (x1 + x5)) ∧
        (0 ≤ x1 + x5 ∧ x1 + x5 < (18000 : Int)) ∧
        (bm_rg (x3 + 1)) ∧
        (bm_rg (x5 + 1)) ∧
        bW sc 171 15 [br 13 0, bi x1, bi x2, bi (x3 + 1), bi x4, bi (x5 + 1)] [] (up ι 72 0 (x1 + x5) x3) Q
      else
        (bm_rg (x5 + 1)) ∧
        bW sc 171 15 [br 13 0, bi x1, bi x2, bi x3, bi x4, bi (x5 + 1)] [] ι Q))) :
  bW sc 171 15 [br 13 0, bi x1, bi x2, bi x3, bi x4, bi x5] [] ι Q := bm_snd 171 [5, 15] 22 h
-- M_noLengths
set_option maxRecDepth 100000 in
theorem e_M_noLengths_0 {sc : bm_Sc} {Q : bm_O → bm_S → Prop} {x1 : Int} {x2 : Int} {ι : bm_S}
  (h : bW sc 172 2 [br 13 0, bi x1, bi x2, bi 0] [] ι Q) :
  bC sc 172 [br 13 0, bi x1, bi x2] ι Q := bm_snd 172 [2] 3 h
set_option maxRecDepth 100000 in
theorem e_M_noLengths_2 {sc : bm_Sc} {Q : bm_O → bm_S → Prop} {x1 : Int} {x2 : Int} {x3 : Int} {ι : bm_S}
  (h : (if x2 ≤ x3 then
      (0 ≤ x1 ∧ x1 < (18000 : Int)) ∧
      Q (.inl none) (up ι 73 0 x1 (-1))
    else
      (bm_rg (x1 + x3)) ∧
      (0 ≤ x1 + x3 ∧ x1 + x3 < (18000 : Int)) ∧
      (bm_rg (x3 + 1)) ∧
      bW sc 172 2 [br 13 0, bi x1, bi x2, bi (x3 + 1)] [] (up ι 71 0 (x1 + x3) 0) Q)) :
  bW sc 172 2 [br 13 0, bi x1, bi x2, bi x3] [] ι Q := bm_snd 172 [2] 13 h
-- M_bit
set_option maxRecDepth 100000 in
theorem e_M_bit_0 {sc : bm_Sc} {Q : bm_O → bm_S → Prop}  {ι : bm_S}
  (h : (bm_rg (8 * ι 13 0 15)) ∧
    (if ι 13 0 16 = 8 * ι 13 0 15 then
      bC sc 152 [br 13 0, bi 1] ι (bk0 (fun ι1 => 
        (0 ≤ ι1 13 0 16 ∧ 0 < (8 : Int)) ∧
        (0 ≤ ι1 13 0 16 / 8 ∧ ι1 13 0 16 / 8 < (2440 : Int)) ∧
        (0 ≤ ι1 13 0 16 ∧ 0 < (8 : Int)) ∧
        (0 ≤ ι1 13 0 16 % 8 ∧ ι1 13 0 16 % 8 < 32) ∧
        (bm_rg (ι1 13 0 16 + 1)) ∧
        Q (.inl (some (bi (ι1 74 0 (ι1 13 0 16 / 8) / bm_p2 (ι1 13 0 16 % 8) % 2)))) (up ι1 13 0 16 (ι1 13 0 16 + 1))) (bq Q))
    else
      (0 ≤ ι 13 0 16 ∧ 0 < (8 : Int)) ∧
      (0 ≤ ι 13 0 16 / 8 ∧ ι 13 0 16 / 8 < (2440 : Int)) ∧
      (0 ≤ ι 13 0 16 ∧ 0 < (8 : Int)) ∧
      (0 ≤ ι 13 0 16 % 8 ∧ ι 13 0 16 % 8 < 32) ∧
      (bm_rg (ι 13 0 16 + 1)) ∧
      Q (.inl (some (bi (ι 74 0 (ι 13 0 16 / 8) / bm_p2 (ι 13 0 16 % 8) % 2)))) (up ι 13 0 16 (ι 13 0 16 + 1)))) :
  bC sc 173 [br 13 0] ι Q := bm_snd 173 [] 33 h
-- M_number
set_option maxRecDepth 100000 in
theorem e_M_number_0 {sc : bm_Sc} {Q : bm_O → bm_S → Prop} {x1 : Int} {ι : bm_S}
  (h : bW sc 174 4 [br 13 0, bi x1, bi 0, bi 0] [] ι Q) :
  bC sc 174 [br 13 0, bi x1] ι Q := bm_snd 174 [4] 5 h
set_option maxRecDepth 100000 in
theorem e_M_number_4 {sc : bm_Sc} {Q : bm_O → bm_S → Prop} {x1 : Int} {x2 : Int} {x3 : Int} {ι : bm_S}
  (h : (if x1 ≤ x3 then
      Q (.inl (some (bi x2))) ι
    else
      bC sc 173 [br 13 0] ι (bk1 (fun r1 ι1 => 
        ((0 ≤ x3 ∧ x3 < 32) ∧ bm_rg (r1 * bm_p2 x3)) ∧
        (bm_rg (x3 + 1)) ∧
        bW sc 174 4 [br 13 0, bi x1, bi (bm_or x2 (r1 * bm_p2 x3)), bi (x3 + 1)] [] ι1 Q) (bq Q)))) :
  bW sc 174 4 [br 13 0, bi x1, bi x2, bi x3] [] ι Q := bm_snd 174 [4] 13 h
-- M_toByte
set_option maxRecDepth 100000 in
theorem e_M_toByte_0 {sc : bm_Sc} {Q : bm_O → bm_S → Prop}  {ι : bm_S}
  (h : bW sc 175 2 [br 13 0, bi 0] [] ι Q) :
  bC sc 175 [br 13 0] ι Q := bm_snd 175 [2] 3 h
set_option maxRecDepth 100000 in
theorem e_M_toByte_2 {sc : bm_Sc} {Q : bm_O → bm_S → Prop} {x1 : Int} {ι : bm_S}
  (h : (0 ≤ ι 13 0 16 ∧ 0 < (8 : Int)) ∧
    (if ι 13 0 16 % 8 = (0 : Int) then
      (if x1 = (0 : Int) then
        Q (.inl none) ι
      else
        bC sc 152 [br 13 0, bi 6] ι (bk0 (fun ι1 => 
          Q (.inl none) ι1) (bq Q)))
    else
      bC sc 173 [br 13 0] ι (bk1 (fun r2 ι2 => 
        bW sc 175 2 [br 13 0, bi (bm_or x1 r2)] [] ι2 Q) (bq Q)))) :
  bW sc 175 2 [br 13 0, bi x1] [] ι Q := bm_snd 175 [2] 12 h
-- M_sign
set_option maxRecDepth 100000 in
theorem e_M_sign_0 {sc : bm_Sc} {Q : bm_O → bm_S → Prop} {x1 : Int} {x2 : Int} {ι : bm_S}
  (h : (0 ≤ x1 ∧ x1 < (18000 : Int)) ∧
    (if ι 73 0 x1 < (0 : Int) then
      bW sc 176 21 [br 13 0, bi x1, bi x2, bi 0, bi 1, bu] [] ι Q
    else
      (0 ≤ x1 ∧ x1 < (18000 : Int)) ∧
      Q (.inl (some (bi (ι 73 0 x1)))) ι)) :
  bC sc 176 [br 13 0, bi x1, bi x2] ι Q := bm_snd 176 [21, 40] 10 h
set_option maxRecDepth 100000 in
theorem e_M_sign_21 {sc : bm_Sc} {Q : bm_O → bm_S → Prop} {x1 : Int} {x2 : Int} {x3 : Int} {x4 : Int} {v5 : bm_V} {ι : bm_S}
  (h : (if (15 : Int) < x4 then
      Q (.inl (some (bi 0))) ι
    else
      (bm_rg (2 * x3)) ∧
      bC sc 173 [br 13 0] ι (bk1 (fun r1 ι1 => 
        (bm_rg (2 * x3 + r1)) ∧
        bW sc 176 40 [br 13 0, bi x1, bi x2, bi (2 * x3 + r1), bi x4, bi 0] [] ι1 Q) (bq Q)))) :
  bW sc 176 21 [br 13 0, bi x1, bi x2, bi x3, bi x4, v5] [] ι Q := bm_snd 176 [21, 40] 13 h
set_option maxRecDepth 100000 in
theorem e_M_sign_40 {sc : bm_Sc} {Q : bm_O → bm_S → Prop} {x1 : Int} {x2 : Int} {x3 : Int} {x4 : Int} {x5 : Int} {ι : bm_S}
  (h : (if x2 ≤ x5 then
      (bm_rg (x4 + 1)) ∧
      bW sc 176 21 [br 13 0, bi x1, bi x2, bi x3, bi (x4 + 1), bi x5] [] ι Q
    else
      (bm_rg (x1 + x5)) ∧
      (0 ≤ x1 + x5 ∧ x1 + x5 < (18000 : Int)) ∧
      (if ι 71 0 (x1 + x5) = x4 then
        (bm_rg (x1 + x5)) ∧
        (0 ≤ x1 + x5 ∧ x1 + x5 < (18000 : Int)) ∧
        (if ι 72 0 (x1 + x5) = x3 then
          Q (.inl (some (bi x5))) ι
        else
          (bm_rg (x5 + 1)) ∧
          bW sc 176 40 [br 13 0, bi x1, bi x2, bi x3, bi x4, bi (x5 + 1)] [] ι Q)
      else
        (bm_rg (x5 + 1)) ∧
        bW sc 176 40 [br 13 0, bi x1, bi x2, bi x3, bi x4, bi (x5 + 1)] [] ι Q))) :
  bW sc 176 40 [br 13 0, bi x1, bi x2, bi x3, bi x4, bi x5] [] ι Q := bm_snd 176 [21, 40] 22 h
-- M_widthOf
set_option maxRecDepth 100000 in
theorem e_M_widthOf_0 {sc : bm_Sc} {Q : bm_O → bm_S → Prop} {x0 : Int} {ι : bm_S}
  (h : bW sc 177 2 [bi x0, bi 0] [] ι Q) :
  bC sc 177 [bi x0] ι Q := bm_snd 177 [2] 3 h
set_option maxRecDepth 100000 in
theorem e_M_widthOf_2 {sc : bm_Sc} {Q : bm_O → bm_S → Prop} {x0 : Int} {x1 : Int} {ι : bm_S}
  (h : (0 ≤ x1 ∧ x1 < 32) ∧
    (if x0 / bm_p2 x1 ≤ (0 : Int) then
      Q (.inl (some (bi x1))) ι
    else
      (bm_rg (x1 + 1)) ∧
      bW sc 177 2 [bi x0, bi (x1 + 1)] [] ι Q)) :
  bW sc 177 2 [bi x0, bi x1] [] ι Q := bm_snd 177 [2] 7 h
-- M_readCode
set_option maxRecDepth 100000 in
theorem e_M_readCode_0 {sc : bm_Sc} {Q : bm_O → bm_S → Prop} {x1 : Int} {x2 : Int} {ι : bm_S}
  (h : bC sc 172 [br 13 0, bi x1, bi x2] ι (bk0 (fun ι1 => 
      bC sc 174 [br 13 0, bi 2] ι1 (bk1 (fun r2 ι2 => 
        (if r2 = (1 : Int) then
          bC sc 179 [br 13 0, bi x1, bi x2] ι2 (bk0 (fun ι6 => 
            bC sc 171 [br 13 0, bi x1, bi x2] ι6 (bk0 (fun ι7 => 
              Q (.inl none) ι7) (bq Q))) (bq Q))
        else
          bC sc 183 [br 13 0, bi r2] ι2 (bk0 (fun ι3 => 
            bC sc 184 [br 13 0, bi x1, bi x2] ι3 (bk0 (fun ι4 => 
              bC sc 171 [br 13 0, bi x1, bi x2] ι4 (bk0 (fun ι5 => 
                Q (.inl none) ι5) (bq Q))) (bq Q))) (bq Q)))) (bq Q))) (bq Q))) :
  bC sc 178 [br 13 0, bi x1, bi x2] ι Q := bm_snd 178 [] 23 h
-- M_readFew
set_option maxRecDepth 100000 in
theorem e_M_readFew_0 {sc : bm_Sc} {Q : bm_O → bm_S → Prop} {x1 : Int} {x2 : Int} {ι : bm_S}
  (h : bC sc 174 [br 13 0, bi 2] ι (bk1 (fun r1 ι1 => 
      (bm_rg (r1 + 1)) ∧
      bW sc 179 11 [br 13 0, bi x1, bi x2, bi (r1 + 1), bi 0, bu, bu] [] ι1 Q) (bq Q))) :
  bC sc 179 [br 13 0, bi x1, bi x2] ι Q := bm_snd 179 [11, 55, 132] 9 h
set_option maxRecDepth 100000 in
theorem e_M_readFew_11 {sc : bm_Sc} {Q : bm_O → bm_S → Prop} {x1 : Int} {x2 : Int} {x3 : Int} {x4 : Int} {v5 : bm_V} {v6 : bm_V} {ι : bm_S}
  (h : (if x3 ≤ x4 then
      (if x3 = (4 : Int) then
        bC sc 173 [br 13 0] ι (bk1 (fun r1 ι1 => 
          bW sc 179 132 [br 13 0, bi x1, bi x2, bi x3, bi r1, bi 0, v6] [] ι1 Q) (bq Q))
      else
        bW sc 179 132 [br 13 0, bi x1, bi x2, bi x3, bi 0, bi 0, v6] [] ι Q)
    else
      (bm_rg (x2 - 1)) ∧
      bC sc 177 [bi (x2 - 1)] ι (bk1 (fun r2 ι2 => 
        bC sc 174 [br 13 0, bi r2] ι2 (bk1 (fun r3 ι3 => 
          (0 ≤ x4 ∧ x4 < (4 : Int)) ∧
          (0 ≤ x4 ∧ x4 < (4 : Int)) ∧
          (if x2 ≤ (up ι3 75 0 x4 r3) 75 0 x4 then
            bW sc 179 55 [br 13 0, bi x1, bi x2, bi x3, bi x4, bi 0, bi 0] [] (up ι3 75 0 x4 r3) Q
          else
            bW sc 179 55 [br 13 0, bi x1, bi x2, bi x3, bi x4, bi 1, bi 0] [] (up ι3 75 0 x4 r3) Q)) (bq Q))) (bq Q)))) :
  bW sc 179 11 [br 13 0, bi x1, bi x2, bi x3, bi x4, v5, v6] [] ι Q := bm_snd 179 [11, 55, 132] 25 h
set_option maxRecDepth 100000 in
theorem e_M_readFew_55 {sc : bm_Sc} {Q : bm_O → bm_S → Prop} {x1 : Int} {x2 : Int} {x3 : Int} {x4 : Int} {x5 : Int} {x6 : Int} {ι : bm_S}
  (h : (if x4 ≤ x6 then
      (if x5 = (0 : Int) then
        bC sc 152 [br 13 0, bi 12] ι (bk0 (fun ι1 => 
          (bm_rg (x4 + 1)) ∧
          bW sc 179 11 [br 13 0, bi x1, bi x2, bi x3, bi (x4 + 1), bi x5, bi x6] [] ι1 Q) (bq Q))
      else
        (bm_rg (x4 + 1)) ∧
        bW sc 179 11 [br 13 0, bi x1, bi x2, bi x3, bi (x4 + 1), bi x5, bi x6] [] ι Q)
    else
      (if x5 = (0 : Int) then
        (bm_rg (x6 + 1)) ∧
        bW sc 179 55 [br 13 0, bi x1, bi x2, bi x3, bi x4, bi 0, bi (x6 + 1)] [] ι Q
      else
        (0 ≤ x6 ∧ x6 < (4 : Int)) ∧
        (0 ≤ x4 ∧ x4 < (4 : Int)) ∧
        (if ι 75 0 x6 = ι 75 0 x4 then
          (bm_rg (x6 + 1)) ∧
          bW sc 179 55 [br 13 0, bi x1, bi x2, bi x3, bi x4, bi 0, bi (x6 + 1)] [] ι Q
        else
          (bm_rg (x6 + 1)) ∧
          bW sc 179 55 [br 13 0, bi x1, bi x2, bi x3, bi x4, bi 1, bi (x6 + 1)] [] ι Q)))) :
  bW sc 179 55 [br 13 0, bi x1, bi x2, bi x3, bi x4, bi x5, bi x6] [] ι Q := bm_snd 179 [11, 55, 132] 20 h
set_option maxRecDepth 100000 in
theorem e_M_readFew_132 {sc : bm_Sc} {Q : bm_O → bm_S → Prop} {x1 : Int} {v2 : bm_V} {x3 : Int} {x4 : Int} {x5 : Int} {v6 : bm_V} {ι : bm_S}
  (h : (if x3 ≤ x5 then
      (if x3 = (1 : Int) then
        (0 ≤ (0 : Int) ∧ (0 : Int) < (4 : Int)) ∧
        (0 ≤ x1 ∧ x1 < (18000 : Int)) ∧
        Q (.inl none) (up ι 73 0 x1 (ι 75 0 0))
      else
        (0 ≤ x1 ∧ x1 < (18000 : Int)) ∧
        Q (.inl none) (up ι 73 0 x1 (-1)))
    else
      (0 ≤ x5 ∧ x5 < (4 : Int)) ∧
      (bm_rg (x1 + ι 75 0 x5)) ∧
      bC sc 180 [bi x3, bi x4, bi x5] ι (bk1 (fun r1 ι1 => 
        (0 ≤ x1 + ι 75 0 x5 ∧ x1 + ι 75 0 x5 < (18000 : Int)) ∧
        (bm_rg (x5 + 1)) ∧
        bW sc 179 132 [br 13 0, bi x1, v2, bi x3, bi x4, bi (x5 + 1), v6] [] (up ι1 71 0 (x1 + ι 75 0 x5) r1) Q) (bq Q)))) :
  bW sc 179 132 [br 13 0, bi x1, v2, bi x3, bi x4, bi x5, v6] [] ι Q := bm_snd 179 [11, 55, 132] 19 h
-- M_fewLength
set_option maxRecDepth 100000 in
theorem e_M_fewLength_0 {sc : bm_Sc} {Q : bm_O → bm_S → Prop} {x0 : Int} {x1 : Int} {x2 : Int} {ι : bm_S}
  (h : (if x0 = (1 : Int) then
      Q (.inl (some (bi 0))) ι
    else
      (if x0 = (2 : Int) then
        Q (.inl (some (bi 1))) ι
      else
        (if x0 = (3 : Int) then
          (if x2 = (0 : Int) then
            Q (.inl (some (bi 1))) ι
          else
            Q (.inl (some (bi 2))) ι)
        else
          (if x1 = (0 : Int) then
            Q (.inl (some (bi 2))) ι
          else
            (if x2 = (0 : Int) then
              Q (.inl (some (bi 1))) ι
            else
              (if x2 = (1 : Int) then
                Q (.inl (some (bi 2))) ι
              else
                Q (.inl (some (bi 3))) ι))))))) :
  bC sc 180 [bi x0, bi x1, bi x2] ι Q := bm_snd 180 [] 19 h
-- M_markAt
set_option maxRecDepth 100000 in
theorem e_M_markAt_0 {sc : bm_Sc} {Q : bm_O → bm_S → Prop} {x0 : Int} {ι : bm_S}
  (h : (if (4 : Int) ≤ x0 then
      (if x0 = (4 : Int) then
        Q (.inl (some (bi 0))) ι
      else
        (if x0 = (5 : Int) then
          Q (.inl (some (bi 5))) ι
        else
          (if x0 = (6 : Int) then
            Q (.inl (some (bi 17))) ι
          else
            (if x0 = (7 : Int) then
              Q (.inl (some (bi 6))) ι
            else
              (if x0 = (8 : Int) then
                Q (.inl (some (bi 16))) ι
              else
                (bm_rg (x0 - 2)) ∧
                Q (.inl (some (bi (x0 - 2)))) ι)))))
    else
      (bm_rg (x0 + 1)) ∧
      Q (.inl (some (bi (x0 + 1)))) ι)) :
  bC sc 181 [bi x0] ι Q := bm_snd 181 [] 22 h
-- M_markLength
set_option maxRecDepth 100000 in
theorem e_M_markLength_0 {sc : bm_Sc} {Q : bm_O → bm_S → Prop}  {ι : bm_S}
  (h : bC sc 173 [br 13 0] ι (bk1 (fun r1 ι1 => 
      bC sc 173 [br 13 0] ι1 (bk1 (fun r2 ι2 => 
        (if r1 = (0 : Int) then
          (if r2 = (0 : Int) then
            Q (.inl (some (bi 0))) ι2
          else
            Q (.inl (some (bi 3))) ι2)
        else
          (if r2 = (0 : Int) then
            Q (.inl (some (bi 4))) ι2
          else
            bC sc 173 [br 13 0] ι2 (bk1 (fun r3 ι3 => 
              (if r3 = (0 : Int) then
                Q (.inl (some (bi 2))) ι3
              else
                bC sc 173 [br 13 0] ι3 (bk1 (fun r4 ι4 => 
                  (if r4 = (0 : Int) then
                    Q (.inl (some (bi 1))) ι4
                  else
                    Q (.inl (some (bi 5))) ι4)) (bq Q)))) (bq Q))))) (bq Q))) (bq Q))) :
  bC sc 182 [br 13 0] ι Q := bm_snd 182 [] 19 h
-- M_readMarks
set_option maxRecDepth 100000 in
theorem e_M_readMarks_0 {sc : bm_Sc} {Q : bm_O → bm_S → Prop} {x1 : Int} {ι : bm_S}
  (h : bC sc 172 [br 13 0, bi 17910, bi 18] ι (bk0 (fun ι1 => 
      bW sc 183 19 [br 13 0, bi x1, bi 0, bi 0, bi 0, bi x1, bu] [] ι1 Q) (bq Q))) :
  bC sc 183 [br 13 0, bi x1] ι Q := bm_snd 183 [19, 77, 89, 95] 13 h
set_option maxRecDepth 100000 in
theorem e_M_readMarks_19 {sc : bm_Sc} {Q : bm_O → bm_S → Prop} {v1 : bm_V} {x2 : Int} {x3 : Int} {x4 : Int} {x5 : Int} {v6 : bm_V} {ι : bm_S}
  (h : (if (18 : Int) ≤ x5 then
      bW sc 183 95 [br 13 0, v1, bi x2, bi x3, bi x4, bi x5, v6] [] ι Q
    else
      (if (32 : Int) ≤ x2 then
        bW sc 183 95 [br 13 0, v1, bi x2, bi x3, bi x4, bi x5, v6] [] ι Q
      else
        bC sc 182 [br 13 0] ι (bk1 (fun r1 ι1 => 
          bC sc 181 [bi x5] ι1 (bk1 (fun r2 ι2 => 
            (bm_rg (17910 + r2)) ∧
            (0 ≤ 17910 + r2 ∧ 17910 + r2 < (18000 : Int)) ∧
            (if r1 ≤ (0 : Int) then
              bW sc 183 77 [br 13 0, v1, bi x2, bi x3, bi x4, bi x5, bi r1] [] (up ι2 71 0 (17910 + r2) r1) Q
            else
              (0 ≤ r1 ∧ r1 < 32) ∧
              (bm_rg (x2 + 32 / bm_p2 r1)) ∧
              (bm_rg (x3 + 1)) ∧
              bC sc 181 [bi x5] (up ι2 71 0 (17910 + r2) r1) (bk1 (fun r3 ι3 => 
                bW sc 183 77 [br 13 0, v1, bi (x2 + 32 / bm_p2 r1), bi (x3 + 1), bi r3, bi x5, bi r1] [] ι3 Q) (bq Q)))) (bq Q))) (bq Q))))) :
  bW sc 183 19 [br 13 0, v1, bi x2, bi x3, bi x4, bi x5, v6] [] ι Q := bm_snd 183 [19, 77, 89, 95] 30 h
set_option maxRecDepth 100000 in
theorem e_M_readMarks_77 {sc : bm_Sc} {Q : bm_O → bm_S → Prop} {v1 : bm_V} {x2 : Int} {x3 : Int} {x4 : Int} {x5 : Int} {v6 : bm_V} {ι : bm_S}
  (h : (if x2 ≤ (32 : Int) then
      bW sc 183 89 [br 13 0, v1, bi x2, bi x3, bi x4, bi x5, v6] [] ι Q
    else
      bC sc 152 [br 13 0, bi 13] ι (bk0 (fun ι1 => 
        bW sc 183 89 [br 13 0, v1, bi x2, bi x3, bi x4, bi x5, v6] [] ι1 Q) (bq Q)))) :
  bW sc 183 77 [br 13 0, v1, bi x2, bi x3, bi x4, bi x5, v6] [] ι Q := bm_snd 183 [19, 77, 89, 95] 7 h
set_option maxRecDepth 100000 in
theorem e_M_readMarks_89 {sc : bm_Sc} {Q : bm_O → bm_S → Prop} {v1 : bm_V} {x2 : Int} {x3 : Int} {x4 : Int} {x5 : Int} {v6 : bm_V} {ι : bm_S}
  (h : (bm_rg (x5 + 1)) ∧
    bW sc 183 19 [br 13 0, v1, bi x2, bi x3, bi x4, bi (x5 + 1), v6] [] ι Q) :
  bW sc 183 89 [br 13 0, v1, bi x2, bi x3, bi x4, bi x5, v6] [] ι Q := bm_snd 183 [19, 77, 89, 95] 3 h
set_option maxRecDepth 100000 in
theorem e_M_readMarks_95 {sc : bm_Sc} {Q : bm_O → bm_S → Prop} {v1 : bm_V} {x2 : Int} {x3 : Int} {x4 : Int} {v5 : bm_V} {v6 : bm_V} {ι : bm_S}
  (h : (if x3 = (0 : Int) then
      bC sc 152 [br 13 0, bi 13] ι (bk0 (fun ι1 => 
        (if x3 = (1 : Int) then
          (0 ≤ (17910 : Int) ∧ (17910 : Int) < (18000 : Int)) ∧
          bC sc 171 [br 13 0, bi 17910, bi 18] (up ι1 73 0 17910 x4) (bk0 (fun ι3 => 
            Q (.inl none) ι3) (bq Q))
        else
          (0 ≤ (17910 : Int) ∧ (17910 : Int) < (18000 : Int)) ∧
          bC sc 171 [br 13 0, bi 17910, bi 18] (up ι1 73 0 17910 (-1)) (bk0 (fun ι2 => 
            Q (.inl none) ι2) (bq Q)))) (bq Q))
    else
      (if x3 ≤ (1 : Int) then
        (if x3 = (1 : Int) then
          (0 ≤ (17910 : Int) ∧ (17910 : Int) < (18000 : Int)) ∧
          bC sc 171 [br 13 0, bi 17910, bi 18] (up ι 73 0 17910 x4) (bk0 (fun ι5 => 
            Q (.inl none) ι5) (bq Q))
        else
          (0 ≤ (17910 : Int) ∧ (17910 : Int) < (18000 : Int)) ∧
          bC sc 171 [br 13 0, bi 17910, bi 18] (up ι 73 0 17910 (-1)) (bk0 (fun ι4 => 
            Q (.inl none) ι4) (bq Q)))
      else
        (if x2 = (32 : Int) then
          (if x3 = (1 : Int) then
            (0 ≤ (17910 : Int) ∧ (17910 : Int) < (18000 : Int)) ∧
            bC sc 171 [br 13 0, bi 17910, bi 18] (up ι 73 0 17910 x4) (bk0 (fun ι7 => 
              Q (.inl none) ι7) (bq Q))
          else
            (0 ≤ (17910 : Int) ∧ (17910 : Int) < (18000 : Int)) ∧
            bC sc 171 [br 13 0, bi 17910, bi 18] (up ι 73 0 17910 (-1)) (bk0 (fun ι6 => 
              Q (.inl none) ι6) (bq Q)))
        else
          bC sc 152 [br 13 0, bi 13] ι (bk0 (fun ι8 => 
            (if x3 = (1 : Int) then
              (0 ≤ (17910 : Int) ∧ (17910 : Int) < (18000 : Int)) ∧
              bC sc 171 [br 13 0, bi 17910, bi 18] (up ι8 73 0 17910 x4) (bk0 (fun ι10 => 
                Q (.inl none) ι10) (bq Q))
            else
              (0 ≤ (17910 : Int) ∧ (17910 : Int) < (18000 : Int)) ∧
              bC sc 171 [br 13 0, bi 17910, bi 18] (up ι8 73 0 17910 (-1)) (bk0 (fun ι9 => 
                Q (.inl none) ι9) (bq Q)))) (bq Q)))))) :
  bW sc 183 95 [br 13 0, v1, bi x2, bi x3, bi x4, v5, v6] [] ι Q := bm_snd 183 [19, 77, 89, 95] 25 h
-- M_readLengths
set_option maxRecDepth 100000 in
theorem e_M_readLengths_0 {sc : bm_Sc} {Q : bm_O → bm_S → Prop} {x1 : Int} {x2 : Int} {ι : bm_S}
  (h : bW sc 184 15 [br 13 0, bi x1, bi x2, bi 0, bi 0, bi 8, bi 0, bi 0, bu, bu, bu, bu] [] ι Q) :
  bC sc 184 [br 13 0, bi x1, bi x2] ι Q := bm_snd 184 [15, 145, 189] 11 h
set_option maxRecDepth 100000 in
theorem e_M_readLengths_15 {sc : bm_Sc} {Q : bm_O → bm_S → Prop} {x1 : Int} {x2 : Int} {x3 : Int} {x4 : Int} {x5 : Int} {x6 : Int} {x7 : Int} {v8 : bm_V} {v9 : bm_V} {v10 : bm_V} {v11 : bm_V} {ι : bm_S}
  (h : (if (32768 : Int) ≤ x4 then
      (if x4 = (32768 : Int) then
        Q (.inl none) ι
      else
        bC sc 152 [br 13 0, bi 14] ι (bk0 (fun ι1 => 
          Q (.inl none) ι1) (bq Q)))
    else
      (if x2 ≤ x3 then
        (if x4 = (32768 : Int) then
          Q (.inl none) ι
        else
          bC sc 152 [br 13 0, bi 14] ι (bk0 (fun ι2 => 
            Q (.inl none) ι2) (bq Q)))
      else
        bC sc 176 [br 13 0, bi 17910, bi 18] ι (bk1 (fun r3 ι3 => 
          (if (16 : Int) ≤ r3 then
            (bm_rg (r3 - 14)) ∧
            bC sc 174 [br 13 0, bi (r3 - 14)] ι3 (bk1 (fun r4 ι4 => 
              (if x6 = r3 then
                (if r3 = (16 : Int) then
                  (bm_rg (x7 - 2)) ∧
                  (bm_rg (4 * (x7 - 2))) ∧
                  (bm_rg (4 * (x7 - 2) + 3)) ∧
                  (bm_rg (4 * (x7 - 2) + 3 + r4)) ∧
                  (if x6 = r3 then
                    (bm_rg (4 * (x7 - 2) + 3 + r4 - x7)) ∧
                    bW sc 184 145 [br 13 0, bi x1, bi x2, bi x3, bi x4, bi x5, bi r3, bi (4 * (x7 - 2) + 3 + r4), bi r3, bi (4 * (x7 - 2) + 3 + r4 - x7), bi r4, bi (4 * (x7 - 2) + 3 + r4)] [] ι4 Q
                  else
                    bW sc 184 145 [br 13 0, bi x1, bi x2, bi x3, bi x4, bi x5, bi r3, bi (4 * (x7 - 2) + 3 + r4), bi r3, bi (4 * (x7 - 2) + 3 + r4), bi r4, bi (4 * (x7 - 2) + 3 + r4)] [] ι4 Q)
                else
                  (bm_rg (x7 - 2)) ∧
                  (bm_rg (8 * (x7 - 2))) ∧
                  (bm_rg (8 * (x7 - 2) + 3)) ∧
                  (bm_rg (8 * (x7 - 2) + 3 + r4)) ∧
                  (if x6 = r3 then
                    (bm_rg (8 * (x7 - 2) + 3 + r4 - x7)) ∧
                    bW sc 184 145 [br 13 0, bi x1, bi x2, bi x3, bi x4, bi x5, bi r3, bi (8 * (x7 - 2) + 3 + r4), bi r3, bi (8 * (x7 - 2) + 3 + r4 - x7), bi r4, bi (8 * (x7 - 2) + 3 + r4)] [] ι4 Q
                  else
                    bW sc 184 145 [br 13 0, bi x1, bi x2, bi x3, bi x4, bi x5, bi r3, bi (8 * (x7 - 2) + 3 + r4), bi r3, bi (8 * (x7 - 2) + 3 + r4), bi r4, bi (8 * (x7 - 2) + 3 + r4)] [] ι4 Q))
              else
                (bm_rg (3 + r4)) ∧
                (if x6 = r3 then
                  (bm_rg (3 + r4 - x7)) ∧
                  bW sc 184 145 [br 13 0, bi x1, bi x2, bi x3, bi x4, bi x5, bi r3, bi (3 + r4), bi r3, bi (3 + r4 - x7), bi r4, bi (3 + r4)] [] ι4 Q
                else
                  bW sc 184 145 [br 13 0, bi x1, bi x2, bi x3, bi x4, bi x5, bi r3, bi (3 + r4), bi r3, bi (3 + r4), bi r4, bi (3 + r4)] [] ι4 Q))) (bq Q))
          else
            (if r3 ≤ (0 : Int) then
              bW sc 184 145 [br 13 0, bi x1, bi x2, bi x3, bi x4, bi x5, bi 0, bi x7, bi r3, bi 1, v10, v11] [] ι3 Q
            else
              bW sc 184 145 [br 13 0, bi x1, bi x2, bi x3, bi x4, bi r3, bi 0, bi x7, bi r3, bi 1, v10, v11] [] ι3 Q))) (bq Q))))) :
  bW sc 184 15 [br 13 0, bi x1, bi x2, bi x3, bi x4, bi x5, bi x6, bi x7, v8, v9, v10, v11] [] ι Q := bm_snd 184 [15, 145, 189] 53 h
set_option maxRecDepth 100000 in
theorem e_M_readLengths_145 {sc : bm_Sc} {Q : bm_O → bm_S → Prop} {x1 : Int} {x2 : Int} {x3 : Int} {x4 : Int} {x5 : Int} {x6 : Int} {x7 : Int} {x8 : Int} {x9 : Int} {v10 : bm_V} {v11 : bm_V} {ι : bm_S}
  (h : (bm_rg (x2 - x3)) ∧
    (if x9 ≤ x2 - x3 then
      (if (16 : Int) ≤ x8 then
        (if x8 = (16 : Int) then
          bW sc 184 189 [br 13 0, bi x1, bi x2, bi x3, bi x4, bi x5, bi x6, bi x7, bi x8, bi x9, bi x5, bi 0] [] ι Q
        else
          bW sc 184 189 [br 13 0, bi x1, bi x2, bi x3, bi x4, bi x5, bi x6, bi x7, bi x8, bi x9, bi 0, bi 0] [] ι Q)
      else
        bW sc 184 189 [br 13 0, bi x1, bi x2, bi x3, bi x4, bi x5, bi x6, bi x7, bi x8, bi x9, bi x8, bi 0] [] ι Q)
    else
      bC sc 152 [br 13 0, bi 14] ι (bk0 (fun ι1 => 
        (if (16 : Int) ≤ x8 then
          (if x8 = (16 : Int) then
            bW sc 184 189 [br 13 0, bi x1, bi x2, bi x3, bi x4, bi x5, bi x6, bi x7, bi x8, bi x9, bi x5, bi 0] [] ι1 Q
          else
            bW sc 184 189 [br 13 0, bi x1, bi x2, bi x3, bi x4, bi x5, bi x6, bi x7, bi x8, bi x9, bi 0, bi 0] [] ι1 Q)
        else
          bW sc 184 189 [br 13 0, bi x1, bi x2, bi x3, bi x4, bi x5, bi x6, bi x7, bi x8, bi x9, bi x8, bi 0] [] ι1 Q)) (bq Q)))) :
  bW sc 184 145 [br 13 0, bi x1, bi x2, bi x3, bi x4, bi x5, bi x6, bi x7, bi x8, bi x9, v10, v11] [] ι Q := bm_snd 184 [15, 145, 189] 20 h
set_option maxRecDepth 100000 in
theorem e_M_readLengths_189 {sc : bm_Sc} {Q : bm_O → bm_S → Prop} {x1 : Int} {x2 : Int} {x3 : Int} {x4 : Int} {x5 : Int} {x6 : Int} {x7 : Int} {v8 : bm_V} {x9 : Int} {x10 : Int} {x11 : Int} {ι : bm_S}
  (h : (if x9 ≤ x11 then
      (if x4 ≤ (32768 : Int) then
        bW sc 184 15 [br 13 0, bi x1, bi x2, bi x3, bi x4, bi x5, bi x6, bi x7, v8, bi x9, bi x10, bi x11] [] ι Q
      else
        bC sc 152 [br 13 0, bi 14] ι (bk0 (fun ι1 => 
          bW sc 184 15 [br 13 0, bi x1, bi x2, bi x3, bi x4, bi x5, bi x6, bi x7, v8, bi x9, bi x10, bi x11] [] ι1 Q) (bq Q)))
    else
      (bm_rg (x1 + x3)) ∧
      (0 ≤ x1 + x3 ∧ x1 + x3 < (18000 : Int)) ∧
      (bm_rg (x3 + 1)) ∧
      (if x10 ≤ (0 : Int) then
        (bm_rg (x4 + 0)) ∧
        (bm_rg (x11 + 1)) ∧
        bW sc 184 189 [br 13 0, bi x1, bi x2, bi (x3 + 1), bi (x4 + 0), bi x5, bi x6, bi x7, v8, bi x9, bi x10, bi (x11 + 1)] [] (up ι 71 0 (x1 + x3) x10) Q
      else
        (0 ≤ x10 ∧ x10 < 32) ∧
        (bm_rg (x4 + 32768 / bm_p2 x10)) ∧
        (bm_rg (x11 + 1)) ∧
        bW sc 184 189 [br 13 0, bi x1, bi x2, bi (x3 + 1), bi (x4 + 32768 / bm_p2 x10), bi x5, bi x6, bi x7, v8, bi x9, bi x10, bi (x11 + 1)] [] (up ι 71 0 (x1 + x3) x10) Q))) :
  bW sc 184 189 [br 13 0, bi x1, bi x2, bi x3, bi x4, bi x5, bi x6, bi x7, v8, bi x9, bi x10, bi x11] [] ι Q := bm_snd 184 [15, 145, 189] 23 h
-- M_tell
set_option maxRecDepth 100000 in
theorem e_M_tell_0 {sc : bm_Sc} {Q : bm_O → bm_S → Prop} {x1 : Int} {x2 : Int} {ι : bm_S}
  (h : (if (if (1 : Int) ≤ ι 13 0 19 ∧ ι 13 0 19 ≤ (60 : Int) then (1 : Int) else 0) = (0 : Int) then
      Q (.inl none) ι
    else
      (bm_rg (ι 13 0 19 - 1)) ∧
      (bm_rg (12 * (ι 13 0 19 - 1))) ∧
      (bm_rg (12 * (ι 13 0 19 - 1) + x1)) ∧
      (0 ≤ 12 * (ι 13 0 19 - 1) + x1 ∧ 12 * (ι 13 0 19 - 1) + x1 < (720 : Int)) ∧
      Q (.inl none) (up ι 76 0 (12 * (ι 13 0 19 - 1) + x1) x2))) :
  bC sc 185 [br 13 0, bi x1, bi x2] ι Q := bm_snd 185 [] 20 h
-- M_tellMore
set_option maxRecDepth 100000 in
theorem e_M_tellMore_0 {sc : bm_Sc} {Q : bm_O → bm_S → Prop} {x1 : Int} {ι : bm_S}
  (h : (if (if (1 : Int) ≤ ι 13 0 19 ∧ ι 13 0 19 ≤ (60 : Int) then (1 : Int) else 0) = (0 : Int) then
      Q (.inl none) ι
    else
      (bm_rg (ι 13 0 19 - 1)) ∧
      (bm_rg (12 * (ι 13 0 19 - 1))) ∧
      (bm_rg (12 * (ι 13 0 19 - 1) + x1)) ∧
      (0 ≤ 12 * (ι 13 0 19 - 1) + x1 ∧ 12 * (ι 13 0 19 - 1) + x1 < (720 : Int)) ∧
      (bm_rg (ι 76 0 (12 * (ι 13 0 19 - 1) + x1) + 1)) ∧
      (0 ≤ 12 * (ι 13 0 19 - 1) + x1 ∧ 12 * (ι 13 0 19 - 1) + x1 < (720 : Int)) ∧
      Q (.inl none) (up ι 76 0 (12 * (ι 13 0 19 - 1) + x1) (ι 76 0 (12 * (ι 13 0 19 - 1) + x1) + 1)))) :
  bC sc 186 [br 13 0, bi x1] ι Q := bm_snd 186 [] 23 h
-- M_newPart
set_option maxRecDepth 100000 in
theorem e_M_newPart_0 {sc : bm_Sc} {Q : bm_O → bm_S → Prop} {x1 : Int} {x2 : Int} {ι : bm_S}
  (h : (bm_rg (ι 13 0 19 + 1)) ∧
    bW sc 187 12 [br 13 0, bi x1, bi x2, bi 0] [] (up ι 13 0 19 (ι 13 0 19 + 1)) Q) :
  bC sc 187 [br 13 0, bi x1, bi x2] ι Q := bm_snd 187 [12] 9 h
set_option maxRecDepth 100000 in
theorem e_M_newPart_12 {sc : bm_Sc} {Q : bm_O → bm_S → Prop} {x1 : Int} {x2 : Int} {x3 : Int} {ι : bm_S}
  (h : (if (12 : Int) ≤ x3 then
      bC sc 185 [br 13 0, bi 0, bi x1] ι (bk0 (fun ι1 => 
        bC sc 185 [br 13 0, bi 1, bi x2] ι1 (bk0 (fun ι2 => 
          Q (.inl none) ι2) (bq Q))) (bq Q))
    else
      bC sc 185 [br 13 0, bi x3, bi 0] ι (bk0 (fun ι3 => 
        (bm_rg (x3 + 1)) ∧
        bW sc 187 12 [br 13 0, bi x1, bi x2, bi (x3 + 1)] [] ι3 Q) (bq Q)))) :
  bW sc 187 12 [br 13 0, bi x1, bi x2, bi x3] [] ι Q := bm_snd 187 [12] 12 h
-- M_ringAtFirst
set_option maxRecDepth 100000 in
theorem e_M_ringAtFirst_0 {sc : bm_Sc} {Q : bm_O → bm_S → Prop}  {ι : bm_S}
  (h : (0 ≤ (0 : Int) ∧ (0 : Int) < (4 : Int)) ∧
    (0 ≤ (1 : Int) ∧ (1 : Int) < (4 : Int)) ∧
    (0 ≤ (2 : Int) ∧ (2 : Int) < (4 : Int)) ∧
    (0 ≤ (3 : Int) ∧ (3 : Int) < (4 : Int)) ∧
    Q (.inl none) (up (up (up (up ι 77 0 0 16) 77 0 1 15) 77 0 2 11) 77 0 3 4)) :
  bC sc 188 [br 13 0] ι Q := bm_snd 188 [] 21 h
-- M_toRing
set_option maxRecDepth 100000 in
theorem e_M_toRing_0 {sc : bm_Sc} {Q : bm_O → bm_S → Prop} {x1 : Int} {ι : bm_S}
  (h : bW sc 189 2 [br 13 0, bi x1, bi 0] [] ι Q) :
  bC sc 189 [br 13 0, bi x1] ι Q := bm_snd 189 [2] 3 h
set_option maxRecDepth 100000 in
theorem e_M_toRing_2 {sc : bm_Sc} {Q : bm_O → bm_S → Prop} {x1 : Int} {x2 : Int} {ι : bm_S}
  (h : (if (3 : Int) ≤ x2 then
      (0 ≤ (3 : Int) ∧ (3 : Int) < (4 : Int)) ∧
      Q (.inl none) (up ι 77 0 3 x1)
    else
      (bm_rg (x2 + 1)) ∧
      (0 ≤ x2 + 1 ∧ x2 + 1 < (4 : Int)) ∧
      (0 ≤ x2 ∧ x2 < (4 : Int)) ∧
      (bm_rg (x2 + 1)) ∧
      bW sc 189 2 [br 13 0, bi x1, bi (x2 + 1)] [] (up ι 77 0 x2 (ι 77 0 (x2 + 1))) Q)) :
  bW sc 189 2 [br 13 0, bi x1, bi x2] [] ι Q := bm_snd 189 [2] 16 h
-- M_howMany
set_option maxRecDepth 100000 in
theorem e_M_howMany_0 {sc : bm_Sc} {Q : bm_O → bm_S → Prop}  {ι : bm_S}
  (h : bC sc 173 [br 13 0] ι (bk1 (fun r1 ι1 => 
      (if r1 = (1 : Int) then
        bC sc 174 [br 13 0, bi 3] ι1 (bk1 (fun r2 ι2 => 
          ((0 ≤ r2 ∧ r2 < 32) ∧ bm_rg (1 * bm_p2 r2)) ∧
          (bm_rg (1 + 1 * bm_p2 r2)) ∧
          bC sc 174 [br 13 0, bi r2] ι2 (bk1 (fun r3 ι3 => 
            (bm_rg (1 + 1 * bm_p2 r2 + r3)) ∧
            (if 1 + 1 * bm_p2 r2 + r3 ≤ (12 : Int) then
              Q (.inl (some (bi (1 + 1 * bm_p2 r2 + r3)))) ι3
            else
              bC sc 152 [br 13 0, bi 7] ι3 (bk0 (fun ι4 => 
                Q (.inl (some (bi (1 + 1 * bm_p2 r2 + r3)))) ι4) (bq Q)))) (bq Q))) (bq Q))
      else
        Q (.inl (some (bi 1))) ι1)) (bq Q))) :
  bC sc 190 [br 13 0] ι Q := bm_snd 190 [] 28 h
-- M_countBase
set_option maxRecDepth 100000 in
theorem e_M_countBase_0 {sc : bm_Sc} {Q : bm_O → bm_S → Prop} {x0 : Int} {ι : bm_S}
  (h : (if x0 = 0 then
      Q (.inl (some (bi 1))) ι
    else
      (if x0 = 1 then
        Q (.inl (some (bi 5))) ι
      else
        (if x0 = 2 then
          Q (.inl (some (bi 9))) ι
        else
          (if x0 = 3 then
            Q (.inl (some (bi 13))) ι
          else
            (if x0 = 4 then
              Q (.inl (some (bi 17))) ι
            else
              (if x0 = 5 then
                Q (.inl (some (bi 25))) ι
              else
                (if x0 = 6 then
                  Q (.inl (some (bi 33))) ι
                else
                  (if x0 = 7 then
                    Q (.inl (some (bi 41))) ι
                  else
                    (if x0 = 8 then
                      Q (.inl (some (bi 49))) ι
                    else
                      (if x0 = 9 then
                        Q (.inl (some (bi 65))) ι
                      else
                        (if x0 = 10 then
                          Q (.inl (some (bi 81))) ι
                        else
                          (if x0 = 11 then
                            Q (.inl (some (bi 97))) ι
                          else
                            (if x0 = 12 then
                              Q (.inl (some (bi 113))) ι
                            else
                              (if x0 = 13 then
                                Q (.inl (some (bi 145))) ι
                              else
                                (if x0 = 14 then
                                  Q (.inl (some (bi 177))) ι
                                else
                                  (if x0 = 15 then
                                    Q (.inl (some (bi 209))) ι
                                  else
                                    (if x0 = 16 then
                                      Q (.inl (some (bi 241))) ι
                                    else
                                      (if x0 = 17 then
                                        Q (.inl (some (bi 305))) ι
                                      else
                                        (if x0 = 18 then
                                          Q (.inl (some (bi 369))) ι
                                        else
                                          (if x0 = 19 then
                                            Q (.inl (some (bi 497))) ι
                                          else
                                            (if x0 = 20 then
                                              Q (.inl (some (bi 753))) ι
                                            else
                                              (if x0 = 21 then
                                                Q (.inl (some (bi 1265))) ι
                                              else
                                                (if x0 = 22 then
                                                  Q (.inl (some (bi 2289))) ι
                                                else
                                                  (if x0 = 23 then
                                                    Q (.inl (some (bi 4337))) ι
                                                  else
                                                    (if x0 = 24 then
                                                      Q (.inl (some (bi 8433))) ι
                                                    else
                                                      Q (.inl (some (bi 16625))) ι)))))))))))))))))))))))))) :
  bC sc 191 [bi x0] ι Q := bm_snd 191 [] 4 h
-- M_countBits
set_option maxRecDepth 100000 in
theorem e_M_countBits_0 {sc : bm_Sc} {Q : bm_O → bm_S → Prop} {x0 : Int} {ι : bm_S}
  (h : (if (16 : Int) ≤ x0 then
      (if (18 : Int) ≤ x0 then
        (if (25 : Int) ≤ x0 then
          Q (.inl (some (bi 24))) ι
        else
          (bm_rg (x0 - 11)) ∧
          Q (.inl (some (bi (x0 - 11)))) ι)
      else
        Q (.inl (some (bi 6))) ι)
    else
      (0 ≤ x0 ∧ 0 < (4 : Int)) ∧
      (bm_rg (2 + x0 / 4)) ∧
      Q (.inl (some (bi (2 + x0 / 4)))) ι)) :
  bC sc 192 [bi x0] ι Q := bm_snd 192 [] 14 h
-- M_blockCount
set_option maxRecDepth 100000 in
theorem e_M_blockCount_0 {sc : bm_Sc} {Q : bm_O → bm_S → Prop} {x1 : Int} {ι : bm_S}
  (h : (bm_rg (26 * x1)) ∧
    (bm_rg (42 + 26 * x1)) ∧
    bC sc 176 [br 13 0, bi (42 + 26 * x1), bi 26] ι (bk1 (fun r1 ι1 => 
      bC sc 191 [bi r1] ι1 (bk1 (fun r2 ι2 => 
        bC sc 192 [bi r1] ι2 (bk1 (fun r3 ι3 => 
          bC sc 174 [br 13 0, bi r3] ι3 (bk1 (fun r4 ι4 => 
            (bm_rg (r2 + r4)) ∧
            Q (.inl (some (bi (r2 + r4)))) ι4) (bq Q))) (bq Q))) (bq Q))) (bq Q))) :
  bC sc 193 [br 13 0, bi x1] ι Q := bm_snd 193 [] 17 h
-- M_readKinds
set_option maxRecDepth 100000 in
theorem e_M_readKinds_0 {sc : bm_Sc} {Q : bm_O → bm_S → Prop} {x1 : Int} {ι : bm_S}
  (h : bC sc 190 [br 13 0] ι (bk1 (fun r1 ι1 => 
      (0 ≤ x1 ∧ x1 < (3 : Int)) ∧
      (bm_rg (2 + x1)) ∧
      (0 ≤ x1 ∧ x1 < (3 : Int)) ∧
      bC sc 185 [br 13 0, bi (2 + x1), bi ((up ι1 78 0 x1 r1) 78 0 x1)] (up ι1 78 0 x1 r1) (bk0 (fun ι2 => 
        (0 ≤ x1 ∧ x1 < (3 : Int)) ∧
        (0 ≤ x1 ∧ x1 < (3 : Int)) ∧
        (0 ≤ x1 ∧ x1 < (3 : Int)) ∧
        (0 ≤ x1 ∧ x1 < (3 : Int)) ∧
        (if ι2 78 0 x1 ≤ (1 : Int) then
          Q (.inl none) (up (up (up ι2 79 0 x1 0) 80 0 x1 1) 81 0 x1 0)
        else
          (bm_rg (14 * x1)) ∧
          (0 ≤ x1 ∧ x1 < (3 : Int)) ∧
          (bm_rg (ι2 78 0 x1 + 2)) ∧
          bC sc 178 [br 13 0, bi (14 * x1), bi (ι2 78 0 x1 + 2)] (up (up (up ι2 79 0 x1 0) 80 0 x1 1) 81 0 x1 0) (bk0 (fun ι3 => 
            (bm_rg (26 * x1)) ∧
            (bm_rg (42 + 26 * x1)) ∧
            bC sc 178 [br 13 0, bi (42 + 26 * x1), bi 26] ι3 (bk0 (fun ι4 => 
              bC sc 193 [br 13 0, bi x1] ι4 (bk1 (fun r5 ι5 => 
                (0 ≤ x1 ∧ x1 < (3 : Int)) ∧
                Q (.inl none) (up ι5 81 0 x1 r5)) (bq Q))) (bq Q))) (bq Q)))) (bq Q))) (bq Q))) :
  bC sc 194 [br 13 0, bi x1] ι Q := bm_snd 194 [] 63 h
-- M_takeOne
set_option maxRecDepth 100000 in
theorem e_M_takeOne_0 {sc : bm_Sc} {Q : bm_O → bm_S → Prop} {x1 : Int} {ι : bm_S}
  (h : (0 ≤ x1 ∧ x1 < (3 : Int)) ∧
    (if ι 78 0 x1 = (1 : Int) then
      Q (.inl none) ι
    else
      (0 ≤ x1 ∧ x1 < (3 : Int)) ∧
      (if ι 81 0 x1 = (0 : Int) then
        (bm_rg (14 * x1)) ∧
        (0 ≤ x1 ∧ x1 < (3 : Int)) ∧
        (bm_rg (ι 78 0 x1 + 2)) ∧
        bC sc 176 [br 13 0, bi (14 * x1), bi (ι 78 0 x1 + 2)] ι (bk1 (fun r1 ι1 => 
          (if r1 = (0 : Int) then
            (0 ≤ x1 ∧ x1 < (3 : Int)) ∧
            (0 ≤ x1 ∧ x1 < (3 : Int)) ∧
            (0 ≤ x1 ∧ x1 < (3 : Int)) ∧
            (0 ≤ x1 ∧ x1 < (3 : Int)) ∧
            bC sc 193 [br 13 0, bi x1] (up (up ι1 80 0 x1 (ι1 79 0 x1)) 79 0 x1 (ι1 80 0 x1)) (bk1 (fun r4 ι4 => 
              (0 ≤ x1 ∧ x1 < (3 : Int)) ∧
              (0 ≤ x1 ∧ x1 < (3 : Int)) ∧
              (bm_rg ((up ι4 81 0 x1 r4) 81 0 x1 - 1)) ∧
              (0 ≤ x1 ∧ x1 < (3 : Int)) ∧
              Q (.inl none) (up (up ι4 81 0 x1 r4) 81 0 x1 ((up ι4 81 0 x1 r4) 81 0 x1 - 1))) (bq Q))
          else
            (if r1 = (1 : Int) then
              (0 ≤ x1 ∧ x1 < (3 : Int)) ∧
              (bm_rg (ι1 79 0 x1 + 1)) ∧
              (0 ≤ x1 ∧ x1 < (3 : Int)) ∧
              (0 ≤ ι1 79 0 x1 + 1 ∧ 0 < ι1 78 0 x1) ∧
              (0 ≤ x1 ∧ x1 < (3 : Int)) ∧
              (0 ≤ x1 ∧ x1 < (3 : Int)) ∧
              (0 ≤ x1 ∧ x1 < (3 : Int)) ∧
              bC sc 193 [br 13 0, bi x1] (up (up ι1 80 0 x1 (ι1 79 0 x1)) 79 0 x1 ((ι1 79 0 x1 + 1) % ι1 78 0 x1)) (bk1 (fun r3 ι3 => 
                (0 ≤ x1 ∧ x1 < (3 : Int)) ∧
                (0 ≤ x1 ∧ x1 < (3 : Int)) ∧
                (bm_rg ((up ι3 81 0 x1 r3) 81 0 x1 - 1)) ∧
                (0 ≤ x1 ∧ x1 < (3 : Int)) ∧
                Q (.inl none) (up (up ι3 81 0 x1 r3) 81 0 x1 ((up ι3 81 0 x1 r3) 81 0 x1 - 1))) (bq Q))
            else
              (bm_rg (r1 - 2)) ∧
              (0 ≤ x1 ∧ x1 < (3 : Int)) ∧
              (0 ≤ x1 ∧ x1 < (3 : Int)) ∧
              (0 ≤ x1 ∧ x1 < (3 : Int)) ∧
              bC sc 193 [br 13 0, bi x1] (up (up ι1 80 0 x1 (ι1 79 0 x1)) 79 0 x1 (r1 - 2)) (bk1 (fun r2 ι2 => 
                (0 ≤ x1 ∧ x1 < (3 : Int)) ∧
                (0 ≤ x1 ∧ x1 < (3 : Int)) ∧
                (bm_rg ((up ι2 81 0 x1 r2) 81 0 x1 - 1)) ∧
                (0 ≤ x1 ∧ x1 < (3 : Int)) ∧
                Q (.inl none) (up (up ι2 81 0 x1 r2) 81 0 x1 ((up ι2 81 0 x1 r2) 81 0 x1 - 1))) (bq Q))))) (bq Q))
      else
        (0 ≤ x1 ∧ x1 < (3 : Int)) ∧
        (bm_rg (ι 81 0 x1 - 1)) ∧
        (0 ≤ x1 ∧ x1 < (3 : Int)) ∧
        Q (.inl none) (up ι 81 0 x1 (ι 81 0 x1 - 1))))) :
  bC sc 195 [br 13 0, bi x1] ι Q := bm_snd 195 [] 70 h
-- M_readMap
set_option maxRecDepth 100000 in
theorem e_M_readMap_83_0 {sc : bm_Sc} {Q : bm_O → bm_S → Prop} {x2 : Int} {x3 : Int} {ι : bm_S}
  (h : bC sc 173 [br 13 0] ι (bk1 (fun r1 ι1 => 
      (if r1 = (0 : Int) then
        (bm_rg (x3 + 0)) ∧
        bC sc 178 [br 13 0, bi 17880, bi (x3 + 0)] ι1 (bk0 (fun ι4 => 
          bW sc 196 34 [br 13 0, br 83 0, bi x2, bi x3, bi 0, bi 0, bu, bu, bu] [] ι4 Q) (bq Q))
      else
        bC sc 174 [br 13 0, bi 4] ι1 (bk1 (fun r2 ι2 => 
          (bm_rg (r2 + 1)) ∧
          (bm_rg (x3 + (r2 + 1))) ∧
          bC sc 178 [br 13 0, bi 17880, bi (x3 + (r2 + 1))] ι2 (bk0 (fun ι3 => 
            bW sc 196 34 [br 13 0, br 83 0, bi x2, bi x3, bi (r2 + 1), bi 0, bu, bu, bu] [] ι3 Q) (bq Q))) (bq Q)))) (bq Q))) :
  bC sc 196 [br 13 0, br 83 0, bi x2, bi x3] ι Q := bm_snd 196 [34, 96, 155, 180, 205] 18 h
set_option maxRecDepth 100000 in
theorem e_M_readMap_83_34 {sc : bm_Sc} {Q : bm_O → bm_S → Prop} {x2 : Int} {x3 : Int} {x4 : Int} {x5 : Int} {v6 : bm_V} {v7 : bm_V} {v8 : bm_V} {ι : bm_S}
  (h : (if x2 ≤ x5 then
      bC sc 173 [br 13 0] ι (bk1 (fun r1 ι1 => 
        (if r1 = (1 : Int) then
          bW sc 196 155 [br 13 0, br 83 0, bi x2, bi x3, bi x4, bi x5, bi 0, v7, v8] [] ι1 Q
        else
          Q (.inl none) ι1)) (bq Q))
    else
      (bm_rg (x3 + x4)) ∧
      bC sc 176 [br 13 0, bi 17880, bi (x3 + x4)] ι (bk1 (fun r2 ι2 => 
        (if r2 ≤ (0 : Int) then
          (if r2 = (0 : Int) then
            (0 ≤ x5 ∧ x5 < (768 : Int)) ∧
            (bm_rg (x5 + 1)) ∧
            bW sc 196 34 [br 13 0, br 83 0, bi x2, bi x3, bi x4, bi (x5 + 1), bi r2, v7, v8] [] (up ι2 83 0 x5 0) Q
          else
            (bm_rg (r2 - x4)) ∧
            (0 ≤ x5 ∧ x5 < (768 : Int)) ∧
            (bm_rg (x5 + 1)) ∧
            bW sc 196 34 [br 13 0, br 83 0, bi x2, bi x3, bi x4, bi (x5 + 1), bi r2, v7, v8] [] (up ι2 83 0 x5 (r2 - x4)) Q)
        else
          (if x4 < r2 then
            (if r2 = (0 : Int) then
              (0 ≤ x5 ∧ x5 < (768 : Int)) ∧
              (bm_rg (x5 + 1)) ∧
              bW sc 196 34 [br 13 0, br 83 0, bi x2, bi x3, bi x4, bi (x5 + 1), bi r2, v7, v8] [] (up ι2 83 0 x5 0) Q
            else
              (bm_rg (r2 - x4)) ∧
              (0 ≤ x5 ∧ x5 < (768 : Int)) ∧
              (bm_rg (x5 + 1)) ∧
              bW sc 196 34 [br 13 0, br 83 0, bi x2, bi x3, bi x4, bi (x5 + 1), bi r2, v7, v8] [] (up ι2 83 0 x5 (r2 - x4)) Q)
          else
            ((0 ≤ r2 ∧ r2 < 32) ∧ bm_rg (1 * bm_p2 r2)) ∧
            bC sc 174 [br 13 0, bi r2] ι2 (bk1 (fun r3 ι3 => 
              (bm_rg (1 * bm_p2 r2 + r3)) ∧
              (bm_rg (x2 - x5)) ∧
              (if 1 * bm_p2 r2 + r3 ≤ x2 - x5 then
                bW sc 196 96 [br 13 0, br 83 0, bi x2, bi x3, bi x4, bi x5, bi r2, bi (1 * bm_p2 r2 + r3), bi 0] [] ι3 Q
              else
                bC sc 152 [br 13 0, bi 15] ι3 (bk0 (fun ι4 => 
                  bW sc 196 96 [br 13 0, br 83 0, bi x2, bi x3, bi x4, bi x5, bi r2, bi (1 * bm_p2 r2 + r3), bi 0] [] ι4 Q) (bq Q)))) (bq Q))))) (bq Q)))) :
  bW sc 196 34 [br 13 0, br 83 0, bi x2, bi x3, bi x4, bi x5, v6, v7, v8] [] ι Q := bm_snd 196 [34, 96, 155, 180, 205] 34 h
set_option maxRecDepth 100000 in
theorem e_M_readMap_83_96 {sc : bm_Sc} {Q : bm_O → bm_S → Prop} {x2 : Int} {x3 : Int} {x4 : Int} {x5 : Int} {v6 : bm_V} {x7 : Int} {x8 : Int} {ι : bm_S}
  (h : (if x7 ≤ x8 then
      bW sc 196 34 [br 13 0, br 83 0, bi x2, bi x3, bi x4, bi x5, v6, bi x7, bi x8] [] ι Q
    else
      (0 ≤ x5 ∧ x5 < (768 : Int)) ∧
      (bm_rg (x5 + 1)) ∧
      (bm_rg (x8 + 1)) ∧
      bW sc 196 96 [br 13 0, br 83 0, bi x2, bi x3, bi x4, bi (x5 + 1), v6, bi x7, bi (x8 + 1)] [] (up ι 83 0 x5 0) Q)) :
  bW sc 196 96 [br 13 0, br 83 0, bi x2, bi x3, bi x4, bi x5, v6, bi x7, bi x8] [] ι Q := bm_snd 196 [34, 96, 155, 180, 205] 11 h
set_option maxRecDepth 100000 in
theorem e_M_readMap_83_155 {sc : bm_Sc} {Q : bm_O → bm_S → Prop} {x2 : Int} {v3 : bm_V} {v4 : bm_V} {v5 : bm_V} {x6 : Int} {v7 : bm_V} {v8 : bm_V} {ι : bm_S}
  (h : (if (12 : Int) ≤ x6 then
      bW sc 196 180 [br 13 0, br 83 0, bi x2, v3, v4, bi 0, bi x6, v7, v8] [] ι Q
    else
      (0 ≤ x6 ∧ x6 < (12 : Int)) ∧
      (bm_rg (x6 + 1)) ∧
      bW sc 196 155 [br 13 0, br 83 0, bi x2, v3, v4, v5, bi (x6 + 1), v7, v8] [] (up ι 89 0 x6 x6) Q)) :
  bW sc 196 155 [br 13 0, br 83 0, bi x2, v3, v4, v5, bi x6, v7, v8] [] ι Q := bm_snd 196 [34, 96, 155, 180, 205] 11 h
set_option maxRecDepth 100000 in
theorem e_M_readMap_83_180 {sc : bm_Sc} {Q : bm_O → bm_S → Prop} {x2 : Int} {v3 : bm_V} {v4 : bm_V} {x5 : Int} {v6 : bm_V} {v7 : bm_V} {v8 : bm_V} {ι : bm_S}
  (h : (if x2 ≤ x5 then
      Q (.inl none) ι
    else
      (0 ≤ x5 ∧ x5 < (768 : Int)) ∧
      (0 ≤ ι 83 0 x5 ∧ ι 83 0 x5 < (12 : Int)) ∧
      bW sc 196 205 [br 13 0, br 83 0, bi x2, v3, v4, bi x5, bi (ι 83 0 x5), bi (ι 89 0 (ι 83 0 x5)), bi (ι 83 0 x5)] [] ι Q)) :
  bW sc 196 180 [br 13 0, br 83 0, bi x2, v3, v4, bi x5, v6, v7, v8] [] ι Q := bm_snd 196 [34, 96, 155, 180, 205] 15 h
set_option maxRecDepth 100000 in
theorem e_M_readMap_83_205 {sc : bm_Sc} {Q : bm_O → bm_S → Prop} {x2 : Int} {v3 : bm_V} {v4 : bm_V} {x5 : Int} {v6 : bm_V} {x7 : Int} {x8 : Int} {ι : bm_S}
  (h : (if x8 ≤ (0 : Int) then
      (0 ≤ (0 : Int) ∧ (0 : Int) < (12 : Int)) ∧
      (0 ≤ x5 ∧ x5 < (768 : Int)) ∧
      (bm_rg (x5 + 1)) ∧
      bW sc 196 180 [br 13 0, br 83 0, bi x2, v3, v4, bi (x5 + 1), v6, bi x7, bi x8] [] (up (up ι 89 0 0 x7) 83 0 x5 x7) Q
    else
      (bm_rg (x8 - 1)) ∧
      (0 ≤ x8 - 1 ∧ x8 - 1 < (12 : Int)) ∧
      (0 ≤ x8 ∧ x8 < (12 : Int)) ∧
      (bm_rg (x8 + (-1))) ∧
      bW sc 196 205 [br 13 0, br 83 0, bi x2, v3, v4, bi x5, v6, bi x7, bi (x8 + (-1))] [] (up ι 89 0 x8 (ι 89 0 (x8 - 1))) Q)) :
  bW sc 196 205 [br 13 0, br 83 0, bi x2, v3, v4, bi x5, v6, bi x7, bi x8] [] ι Q := bm_snd 196 [34, 96, 155, 180, 205] 15 h
set_option maxRecDepth 100000 in
theorem e_M_readMap_84_0 {sc : bm_Sc} {Q : bm_O → bm_S → Prop} {x2 : Int} {x3 : Int} {ι : bm_S}
  (h : bC sc 173 [br 13 0] ι (bk1 (fun r1 ι1 => 
      (if r1 = (0 : Int) then
        (bm_rg (x3 + 0)) ∧
        bC sc 178 [br 13 0, bi 17880, bi (x3 + 0)] ι1 (bk0 (fun ι4 => 
          bW sc 196 34 [br 13 0, br 84 0, bi x2, bi x3, bi 0, bi 0, bu, bu, bu] [] ι4 Q) (bq Q))
      else
        bC sc 174 [br 13 0, bi 4] ι1 (bk1 (fun r2 ι2 => 
          (bm_rg (r2 + 1)) ∧
          (bm_rg (x3 + (r2 + 1))) ∧
          bC sc 178 [br 13 0, bi 17880, bi (x3 + (r2 + 1))] ι2 (bk0 (fun ι3 => 
            bW sc 196 34 [br 13 0, br 84 0, bi x2, bi x3, bi (r2 + 1), bi 0, bu, bu, bu] [] ι3 Q) (bq Q))) (bq Q)))) (bq Q))) :
  bC sc 196 [br 13 0, br 84 0, bi x2, bi x3] ι Q := bm_snd 196 [34, 96, 155, 180, 205] 18 h
set_option maxRecDepth 100000 in
theorem e_M_readMap_84_34 {sc : bm_Sc} {Q : bm_O → bm_S → Prop} {x2 : Int} {x3 : Int} {x4 : Int} {x5 : Int} {v6 : bm_V} {v7 : bm_V} {v8 : bm_V} {ι : bm_S}
  (h : (if x2 ≤ x5 then
      bC sc 173 [br 13 0] ι (bk1 (fun r1 ι1 => 
        (if r1 = (1 : Int) then
          bW sc 196 155 [br 13 0, br 84 0, bi x2, bi x3, bi x4, bi x5, bi 0, v7, v8] [] ι1 Q
        else
          Q (.inl none) ι1)) (bq Q))
    else
      (bm_rg (x3 + x4)) ∧
      bC sc 176 [br 13 0, bi 17880, bi (x3 + x4)] ι (bk1 (fun r2 ι2 => 
        (if r2 ≤ (0 : Int) then
          (if r2 = (0 : Int) then
            (0 ≤ x5 ∧ x5 < (48 : Int)) ∧
            (bm_rg (x5 + 1)) ∧
            bW sc 196 34 [br 13 0, br 84 0, bi x2, bi x3, bi x4, bi (x5 + 1), bi r2, v7, v8] [] (up ι2 84 0 x5 0) Q
          else
            (bm_rg (r2 - x4)) ∧
            (0 ≤ x5 ∧ x5 < (48 : Int)) ∧
            (bm_rg (x5 + 1)) ∧
            bW sc 196 34 [br 13 0, br 84 0, bi x2, bi x3, bi x4, bi (x5 + 1), bi r2, v7, v8] [] (up ι2 84 0 x5 (r2 - x4)) Q)
        else
          (if x4 < r2 then
            (if r2 = (0 : Int) then
              (0 ≤ x5 ∧ x5 < (48 : Int)) ∧
              (bm_rg (x5 + 1)) ∧
              bW sc 196 34 [br 13 0, br 84 0, bi x2, bi x3, bi x4, bi (x5 + 1), bi r2, v7, v8] [] (up ι2 84 0 x5 0) Q
            else
              (bm_rg (r2 - x4)) ∧
              (0 ≤ x5 ∧ x5 < (48 : Int)) ∧
              (bm_rg (x5 + 1)) ∧
              bW sc 196 34 [br 13 0, br 84 0, bi x2, bi x3, bi x4, bi (x5 + 1), bi r2, v7, v8] [] (up ι2 84 0 x5 (r2 - x4)) Q)
          else
            ((0 ≤ r2 ∧ r2 < 32) ∧ bm_rg (1 * bm_p2 r2)) ∧
            bC sc 174 [br 13 0, bi r2] ι2 (bk1 (fun r3 ι3 => 
              (bm_rg (1 * bm_p2 r2 + r3)) ∧
              (bm_rg (x2 - x5)) ∧
              (if 1 * bm_p2 r2 + r3 ≤ x2 - x5 then
                bW sc 196 96 [br 13 0, br 84 0, bi x2, bi x3, bi x4, bi x5, bi r2, bi (1 * bm_p2 r2 + r3), bi 0] [] ι3 Q
              else
                bC sc 152 [br 13 0, bi 15] ι3 (bk0 (fun ι4 => 
                  bW sc 196 96 [br 13 0, br 84 0, bi x2, bi x3, bi x4, bi x5, bi r2, bi (1 * bm_p2 r2 + r3), bi 0] [] ι4 Q) (bq Q)))) (bq Q))))) (bq Q)))) :
  bW sc 196 34 [br 13 0, br 84 0, bi x2, bi x3, bi x4, bi x5, v6, v7, v8] [] ι Q := bm_snd 196 [34, 96, 155, 180, 205] 34 h
set_option maxRecDepth 100000 in
theorem e_M_readMap_84_96 {sc : bm_Sc} {Q : bm_O → bm_S → Prop} {x2 : Int} {x3 : Int} {x4 : Int} {x5 : Int} {v6 : bm_V} {x7 : Int} {x8 : Int} {ι : bm_S}
  (h : (if x7 ≤ x8 then
      bW sc 196 34 [br 13 0, br 84 0, bi x2, bi x3, bi x4, bi x5, v6, bi x7, bi x8] [] ι Q
    else
      (0 ≤ x5 ∧ x5 < (48 : Int)) ∧
      (bm_rg (x5 + 1)) ∧
      (bm_rg (x8 + 1)) ∧
      bW sc 196 96 [br 13 0, br 84 0, bi x2, bi x3, bi x4, bi (x5 + 1), v6, bi x7, bi (x8 + 1)] [] (up ι 84 0 x5 0) Q)) :
  bW sc 196 96 [br 13 0, br 84 0, bi x2, bi x3, bi x4, bi x5, v6, bi x7, bi x8] [] ι Q := bm_snd 196 [34, 96, 155, 180, 205] 11 h
set_option maxRecDepth 100000 in
theorem e_M_readMap_84_155 {sc : bm_Sc} {Q : bm_O → bm_S → Prop} {x2 : Int} {v3 : bm_V} {v4 : bm_V} {v5 : bm_V} {x6 : Int} {v7 : bm_V} {v8 : bm_V} {ι : bm_S}
  (h : (if (12 : Int) ≤ x6 then
      bW sc 196 180 [br 13 0, br 84 0, bi x2, v3, v4, bi 0, bi x6, v7, v8] [] ι Q
    else
      (0 ≤ x6 ∧ x6 < (12 : Int)) ∧
      (bm_rg (x6 + 1)) ∧
      bW sc 196 155 [br 13 0, br 84 0, bi x2, v3, v4, v5, bi (x6 + 1), v7, v8] [] (up ι 89 0 x6 x6) Q)) :
  bW sc 196 155 [br 13 0, br 84 0, bi x2, v3, v4, v5, bi x6, v7, v8] [] ι Q := bm_snd 196 [34, 96, 155, 180, 205] 11 h
set_option maxRecDepth 100000 in
theorem e_M_readMap_84_180 {sc : bm_Sc} {Q : bm_O → bm_S → Prop} {x2 : Int} {v3 : bm_V} {v4 : bm_V} {x5 : Int} {v6 : bm_V} {v7 : bm_V} {v8 : bm_V} {ι : bm_S}
  (h : (if x2 ≤ x5 then
      Q (.inl none) ι
    else
      (0 ≤ x5 ∧ x5 < (48 : Int)) ∧
      (0 ≤ ι 84 0 x5 ∧ ι 84 0 x5 < (12 : Int)) ∧
      bW sc 196 205 [br 13 0, br 84 0, bi x2, v3, v4, bi x5, bi (ι 84 0 x5), bi (ι 89 0 (ι 84 0 x5)), bi (ι 84 0 x5)] [] ι Q)) :
  bW sc 196 180 [br 13 0, br 84 0, bi x2, v3, v4, bi x5, v6, v7, v8] [] ι Q := bm_snd 196 [34, 96, 155, 180, 205] 15 h
set_option maxRecDepth 100000 in
theorem e_M_readMap_84_205 {sc : bm_Sc} {Q : bm_O → bm_S → Prop} {x2 : Int} {v3 : bm_V} {v4 : bm_V} {x5 : Int} {v6 : bm_V} {x7 : Int} {x8 : Int} {ι : bm_S}
  (h : (if x8 ≤ (0 : Int) then
      (0 ≤ (0 : Int) ∧ (0 : Int) < (12 : Int)) ∧
      (0 ≤ x5 ∧ x5 < (48 : Int)) ∧
      (bm_rg (x5 + 1)) ∧
      bW sc 196 180 [br 13 0, br 84 0, bi x2, v3, v4, bi (x5 + 1), v6, bi x7, bi x8] [] (up (up ι 89 0 0 x7) 84 0 x5 x7) Q
    else
      (bm_rg (x8 - 1)) ∧
      (0 ≤ x8 - 1 ∧ x8 - 1 < (12 : Int)) ∧
      (0 ≤ x8 ∧ x8 < (12 : Int)) ∧
      (bm_rg (x8 + (-1))) ∧
      bW sc 196 205 [br 13 0, br 84 0, bi x2, v3, v4, bi x5, v6, bi x7, bi (x8 + (-1))] [] (up ι 89 0 x8 (ι 89 0 (x8 - 1))) Q)) :
  bW sc 196 205 [br 13 0, br 84 0, bi x2, v3, v4, bi x5, v6, bi x7, bi x8] [] ι Q := bm_snd 196 [34, 96, 155, 180, 205] 15 h
-- M_noMaps
set_option maxRecDepth 100000 in
theorem e_M_noMaps_0 {sc : bm_Sc} {Q : bm_O → bm_S → Prop}  {ι : bm_S}
  (h : bW sc 197 2 [br 13 0, bi 0] [] ι Q) :
  bC sc 197 [br 13 0] ι Q := bm_snd 197 [2, 24] 3 h
set_option maxRecDepth 100000 in
theorem e_M_noMaps_2 {sc : bm_Sc} {Q : bm_O → bm_S → Prop} {x1 : Int} {ι : bm_S}
  (h : (if (768 : Int) ≤ x1 then
      bW sc 197 24 [br 13 0, bi 0] [] ι Q
    else
      (0 ≤ x1 ∧ x1 < (768 : Int)) ∧
      (bm_rg (x1 + 1)) ∧
      bW sc 197 2 [br 13 0, bi (x1 + 1)] [] (up ι 83 0 x1 0) Q)) :
  bW sc 197 2 [br 13 0, bi x1] [] ι Q := bm_snd 197 [2, 24] 11 h
set_option maxRecDepth 100000 in
theorem e_M_noMaps_24 {sc : bm_Sc} {Q : bm_O → bm_S → Prop} {x1 : Int} {ι : bm_S}
  (h : (if (48 : Int) ≤ x1 then
      Q (.inl none) ι
    else
      (0 ≤ x1 ∧ x1 < (48 : Int)) ∧
      (bm_rg (x1 + 1)) ∧
      bW sc 197 24 [br 13 0, bi (x1 + 1)] [] (up ι 84 0 x1 0) Q)) :
  bW sc 197 24 [br 13 0, bi x1] [] ι Q := bm_snd 197 [2, 24] 11 h
-- M_readHeads
set_option maxRecDepth 100000 in
theorem e_M_readHeads_0 {sc : bm_Sc} {Q : bm_O → bm_S → Prop}  {ι : bm_S}
  (h : bC sc 197 [br 13 0] ι (bk0 (fun ι1 => 
      bW sc 198 6 [br 13 0, bi 0] [] ι1 Q) (bq Q))) :
  bC sc 198 [br 13 0] ι Q := bm_snd 198 [6, 67, 188, 219, 253] 5 h
set_option maxRecDepth 100000 in
theorem e_M_readHeads_6 {sc : bm_Sc} {Q : bm_O → bm_S → Prop} {x1 : Int} {ι : bm_S}
  (h : (if (3 : Int) ≤ x1 then
      bC sc 174 [br 13 0, bi 2] ι (bk1 (fun r1 ι1 => 
        bC sc 185 [br 13 0, bi 7, bi r1] (up ι1 13 0 22 r1) (bk0 (fun ι2 => 
          bC sc 174 [br 13 0, bi 4] ι2 (bk1 (fun r3 ι3 => 
            ((0 ≤ ι3 13 0 22 ∧ ι3 13 0 22 < 32) ∧ bm_rg (r3 * bm_p2 (ι3 13 0 22))) ∧
            bC sc 185 [br 13 0, bi 8, bi (r3 * bm_p2 (ι3 13 0 22))] (up ι3 13 0 23 (r3 * bm_p2 (ι3 13 0 22))) (bk0 (fun ι4 => 
              bW sc 198 67 [br 13 0, bi 0] [] ι4 Q) (bq Q))) (bq Q))) (bq Q))) (bq Q))
    else
      bC sc 194 [br 13 0, bi x1] ι (bk0 (fun ι5 => 
        (bm_rg (x1 + 1)) ∧
        bW sc 198 6 [br 13 0, bi (x1 + 1)] [] ι5 Q) (bq Q)))) :
  bW sc 198 6 [br 13 0, bi x1] [] ι Q := bm_snd 198 [6, 67, 188, 219, 253] 29 h
set_option maxRecDepth 100000 in
theorem e_M_readHeads_67 {sc : bm_Sc} {Q : bm_O → bm_S → Prop} {x1 : Int} {ι : bm_S}
  (h : (0 ≤ (0 : Int) ∧ (0 : Int) < (3 : Int)) ∧
    (if ι 78 0 0 ≤ x1 then
      bC sc 190 [br 13 0] ι (bk1 (fun r1 ι1 => 
        bC sc 185 [br 13 0, bi 5, bi r1] (up ι1 13 0 29 r1) (bk0 (fun ι2 => 
          (if ι2 13 0 29 ≤ (1 : Int) then
            bC sc 190 [br 13 0] ι2 (bk1 (fun r3 ι3 => 
              bC sc 185 [br 13 0, bi 6, bi r3] (up ι3 13 0 30 r3) (bk0 (fun ι4 => 
                (if ι4 13 0 30 ≤ (1 : Int) then
                  bW sc 198 188 [br 13 0, bi 0] [] ι4 Q
                else
                  (0 ≤ (2 : Int) ∧ (2 : Int) < (3 : Int)) ∧
                  (bm_rg (4 * ι4 78 0 2)) ∧
                  bC sc 196 [br 13 0, br 84 0, bi (4 * ι4 78 0 2), bi (ι4 13 0 30)] ι4 (bk0 (fun ι5 => 
                    bW sc 198 188 [br 13 0, bi 0] [] ι5 Q) (bq Q)))) (bq Q))) (bq Q))
          else
            (0 ≤ (0 : Int) ∧ (0 : Int) < (3 : Int)) ∧
            (bm_rg (64 * ι2 78 0 0)) ∧
            bC sc 196 [br 13 0, br 83 0, bi (64 * ι2 78 0 0), bi (ι2 13 0 29)] ι2 (bk0 (fun ι6 => 
              bC sc 190 [br 13 0] ι6 (bk1 (fun r7 ι7 => 
                bC sc 185 [br 13 0, bi 6, bi r7] (up ι7 13 0 30 r7) (bk0 (fun ι8 => 
                  (if ι8 13 0 30 ≤ (1 : Int) then
                    bW sc 198 188 [br 13 0, bi 0] [] ι8 Q
                  else
                    (0 ≤ (2 : Int) ∧ (2 : Int) < (3 : Int)) ∧
                    (bm_rg (4 * ι8 78 0 2)) ∧
                    bC sc 196 [br 13 0, br 84 0, bi (4 * ι8 78 0 2), bi (ι8 13 0 30)] ι8 (bk0 (fun ι9 => 
                      bW sc 198 188 [br 13 0, bi 0] [] ι9 Q) (bq Q)))) (bq Q))) (bq Q))) (bq Q)))) (bq Q))) (bq Q))
    else
      bC sc 174 [br 13 0, bi 2] ι (bk1 (fun r10 ι10 => 
        (0 ≤ x1 ∧ x1 < (12 : Int)) ∧
        (bm_rg (x1 + 1)) ∧
        bW sc 198 67 [br 13 0, bi (x1 + 1)] [] (up ι10 82 0 x1 r10) Q) (bq Q)))) :
  bW sc 198 67 [br 13 0, bi x1] [] ι Q := bm_snd 198 [6, 67, 188, 219, 253] 59 h
set_option maxRecDepth 100000 in
theorem e_M_readHeads_188 {sc : bm_Sc} {Q : bm_O → bm_S → Prop} {x1 : Int} {ι : bm_S}
  (h : (if ι 13 0 29 ≤ x1 then
      bW sc 198 219 [br 13 0, bi 0] [] ι Q
    else
      (bm_rg (256 * x1)) ∧
      (bm_rg (120 + 256 * x1)) ∧
      bC sc 178 [br 13 0, bi (120 + 256 * x1), bi 256] ι (bk0 (fun ι1 => 
        (bm_rg (x1 + 1)) ∧
        bW sc 198 188 [br 13 0, bi (x1 + 1)] [] ι1 Q) (bq Q)))) :
  bW sc 198 188 [br 13 0, bi x1] [] ι Q := bm_snd 198 [6, 67, 188, 219, 253] 15 h
set_option maxRecDepth 100000 in
theorem e_M_readHeads_219 {sc : bm_Sc} {Q : bm_O → bm_S → Prop} {x1 : Int} {ι : bm_S}
  (h : (0 ≤ (1 : Int) ∧ (1 : Int) < (3 : Int)) ∧
    (if ι 78 0 1 ≤ x1 then
      bW sc 198 253 [br 13 0, bi 0] [] ι Q
    else
      (bm_rg (704 * x1)) ∧
      (bm_rg (3192 + 704 * x1)) ∧
      bC sc 178 [br 13 0, bi (3192 + 704 * x1), bi 704] ι (bk0 (fun ι1 => 
        (bm_rg (x1 + 1)) ∧
        bW sc 198 219 [br 13 0, bi (x1 + 1)] [] ι1 Q) (bq Q)))) :
  bW sc 198 219 [br 13 0, bi x1] [] ι Q := bm_snd 198 [6, 67, 188, 219, 253] 17 h
set_option maxRecDepth 100000 in
theorem e_M_readHeads_253 {sc : bm_Sc} {Q : bm_O → bm_S → Prop} {x1 : Int} {ι : bm_S}
  (h : (if ι 13 0 30 ≤ x1 then
      bC sc 199 [br 13 0] ι (bk0 (fun ι1 => 
        Q (.inl none) ι1) (bq Q))
    else
      (bm_rg (520 * x1)) ∧
      (bm_rg (11640 + 520 * x1)) ∧
      bC sc 170 [br 13 0] ι (bk1 (fun r2 ι2 => 
        bC sc 178 [br 13 0, bi (11640 + 520 * x1), bi r2] ι2 (bk0 (fun ι3 => 
          (bm_rg (x1 + 1)) ∧
          bW sc 198 253 [br 13 0, bi (x1 + 1)] [] ι3 Q) (bq Q))) (bq Q)))) :
  bW sc 198 253 [br 13 0, bi x1] [] ι Q := bm_snd 198 [6, 67, 188, 219, 253] 16 h
-- M_keepCodes
set_option maxRecDepth 100000 in
theorem e_M_keepCodes_0 {sc : bm_Sc} {Q : bm_O → bm_S → Prop}  {ι : bm_S}
  (h : ((1 : Int) = 0 ∨ (1 : Int) = 1) ∧
    bC sc 170 [br 13 0] (up (up (up ι 13 0 33 1) 13 0 35 (ι 13 0 29)) 13 0 36 (ι 13 0 30)) (bk1 (fun r1 ι1 => 
      bW sc 199 31 [br 13 0, bi 0] [] (up ι1 13 0 37 r1) Q) (bq Q))) :
  bC sc 199 [br 13 0] ι Q := bm_snd 199 [31, 56, 83, 110] 18 h
set_option maxRecDepth 100000 in
theorem e_M_keepCodes_31 {sc : bm_Sc} {Q : bm_O → bm_S → Prop} {x1 : Int} {ι : bm_S}
  (h : (if (3 : Int) ≤ x1 then
      bW sc 199 56 [br 13 0, bi 0] [] ι Q
    else
      (0 ≤ x1 ∧ x1 < (3 : Int)) ∧
      (0 ≤ x1 ∧ x1 < (3 : Int)) ∧
      (bm_rg (x1 + 1)) ∧
      bW sc 199 31 [br 13 0, bi (x1 + 1)] [] (up ι 85 0 x1 (ι 78 0 x1)) Q)) :
  bW sc 199 31 [br 13 0, bi x1] [] ι Q := bm_snd 199 [31, 56, 83, 110] 14 h
set_option maxRecDepth 100000 in
theorem e_M_keepCodes_56 {sc : bm_Sc} {Q : bm_O → bm_S → Prop} {x1 : Int} {ι : bm_S}
  (h : (if (18000 : Int) ≤ x1 then
      bW sc 199 83 [br 13 0, bi 0] [] ι Q
    else
      (0 ≤ x1 ∧ x1 < (18000 : Int)) ∧
      (0 ≤ x1 ∧ x1 < (18000 : Int)) ∧
      (bm_rg (x1 + 1)) ∧
      bW sc 199 56 [br 13 0, bi (x1 + 1)] [] (up ι 86 0 x1 (ι 71 0 x1)) Q)) :
  bW sc 199 56 [br 13 0, bi x1] [] ι Q := bm_snd 199 [31, 56, 83, 110] 14 h
set_option maxRecDepth 100000 in
theorem e_M_keepCodes_83 {sc : bm_Sc} {Q : bm_O → bm_S → Prop} {x1 : Int} {ι : bm_S}
  (h : (if (768 : Int) ≤ x1 then
      bW sc 199 110 [br 13 0, bi 0] [] ι Q
    else
      (0 ≤ x1 ∧ x1 < (768 : Int)) ∧
      (0 ≤ x1 ∧ x1 < (768 : Int)) ∧
      (bm_rg (x1 + 1)) ∧
      bW sc 199 83 [br 13 0, bi (x1 + 1)] [] (up ι 87 0 x1 (ι 83 0 x1)) Q)) :
  bW sc 199 83 [br 13 0, bi x1] [] ι Q := bm_snd 199 [31, 56, 83, 110] 14 h
set_option maxRecDepth 100000 in
theorem e_M_keepCodes_110 {sc : bm_Sc} {Q : bm_O → bm_S → Prop} {x1 : Int} {ι : bm_S}
  (h : (if (48 : Int) ≤ x1 then
      Q (.inl none) ι
    else
      (0 ≤ x1 ∧ x1 < (48 : Int)) ∧
      (0 ≤ x1 ∧ x1 < (48 : Int)) ∧
      (bm_rg (x1 + 1)) ∧
      bW sc 199 110 [br 13 0, bi (x1 + 1)] [] (up ι 88 0 x1 (ι 84 0 x1)) Q)) :
  bW sc 199 110 [br 13 0, bi x1] [] ι Q := bm_snd 199 [31, 56, 83, 110] 14 h
-- M_insertBits
set_option maxRecDepth 100000 in
theorem e_M_insertBits_0 {sc : bm_Sc} {Q : bm_O → bm_S → Prop} {x0 : Int} {ι : bm_S}
  (h : (if (6 : Int) ≤ x0 then
      (if (16 : Int) ≤ x0 then
        (if (21 : Int) ≤ x0 then
          (if x0 = (21 : Int) then
            Q (.inl (some (bi 12))) ι
          else
            (if x0 = (22 : Int) then
              Q (.inl (some (bi 14))) ι
            else
              Q (.inl (some (bi 24))) ι))
        else
          (bm_rg (x0 - 10)) ∧
          Q (.inl (some (bi (x0 - 10)))) ι)
      else
        (0 ≤ x0 ∧ 0 < (2 : Int)) ∧
        (bm_rg (x0 / 2 - 2)) ∧
        Q (.inl (some (bi (x0 / 2 - 2)))) ι)
    else
      Q (.inl (some (bi 0))) ι)) :
  bC sc 200 [bi x0] ι Q := bm_snd 200 [] 18 h
-- M_copyBits
set_option maxRecDepth 100000 in
theorem e_M_copyBits_0 {sc : bm_Sc} {Q : bm_O → bm_S → Prop} {x0 : Int} {ι : bm_S}
  (h : (if (8 : Int) ≤ x0 then
      (if (18 : Int) ≤ x0 then
        (if (23 : Int) ≤ x0 then
          Q (.inl (some (bi 24))) ι
        else
          (bm_rg (x0 - 12)) ∧
          Q (.inl (some (bi (x0 - 12)))) ι)
      else
        (0 ≤ x0 ∧ 0 < (2 : Int)) ∧
        (bm_rg (x0 / 2 - 3)) ∧
        Q (.inl (some (bi (x0 / 2 - 3)))) ι)
    else
      Q (.inl (some (bi 0))) ι)) :
  bC sc 201 [bi x0] ι Q := bm_snd 201 [] 14 h
-- M_insertBase
set_option maxRecDepth 100000 in
theorem e_M_insertBase_0 {sc : bm_Sc} {Q : bm_O → bm_S → Prop} {x0 : Int} {ι : bm_S}
  (h : bW sc 202 4 [bi x0, bi 0, bi 0] [] ι Q) :
  bC sc 202 [bi x0] ι Q := bm_snd 202 [4] 5 h
set_option maxRecDepth 100000 in
theorem e_M_insertBase_4 {sc : bm_Sc} {Q : bm_O → bm_S → Prop} {x0 : Int} {x1 : Int} {x2 : Int} {ι : bm_S}
  (h : (if x0 ≤ x2 then
      Q (.inl (some (bi x1))) ι
    else
      bC sc 200 [bi x2] ι (bk1 (fun r1 ι1 => 
        ((0 ≤ r1 ∧ r1 < 32) ∧ bm_rg (1 * bm_p2 r1)) ∧
        (bm_rg (x1 + 1 * bm_p2 r1)) ∧
        (bm_rg (x2 + 1)) ∧
        bW sc 202 4 [bi x0, bi (x1 + 1 * bm_p2 r1), bi (x2 + 1)] [] ι1 Q) (bq Q)))) :
  bW sc 202 4 [bi x0, bi x1, bi x2] [] ι Q := bm_snd 202 [4] 13 h
-- M_copyBase
set_option maxRecDepth 100000 in
theorem e_M_copyBase_0 {sc : bm_Sc} {Q : bm_O → bm_S → Prop} {x0 : Int} {ι : bm_S}
  (h : bW sc 203 4 [bi x0, bi 2, bi 0] [] ι Q) :
  bC sc 203 [bi x0] ι Q := bm_snd 203 [4] 5 h
set_option maxRecDepth 100000 in
theorem e_M_copyBase_4 {sc : bm_Sc} {Q : bm_O → bm_S → Prop} {x0 : Int} {x1 : Int} {x2 : Int} {ι : bm_S}
  (h : (if x0 ≤ x2 then
      Q (.inl (some (bi x1))) ι
    else
      bC sc 201 [bi x2] ι (bk1 (fun r1 ι1 => 
        ((0 ≤ r1 ∧ r1 < 32) ∧ bm_rg (1 * bm_p2 r1)) ∧
        (bm_rg (x1 + 1 * bm_p2 r1)) ∧
        (bm_rg (x2 + 1)) ∧
        bW sc 203 4 [bi x0, bi (x1 + 1 * bm_p2 r1), bi (x2 + 1)] [] ι1 Q) (bq Q)))) :
  bW sc 203 4 [bi x0, bi x1, bi x2] [] ι Q := bm_snd 203 [4] 13 h
-- M_insertEight
set_option maxRecDepth 100000 in
theorem e_M_insertEight_0 {sc : bm_Sc} {Q : bm_O → bm_S → Prop} {x0 : Int} {ι : bm_S}
  (h : (if (4 : Int) ≤ x0 then
      (if (6 : Int) ≤ x0 then
        (if x0 = (6 : Int) then
          Q (.inl (some (bi 0))) ι
        else
          (if x0 = (7 : Int) then
            Q (.inl (some (bi 2))) ι
          else
            (if x0 = (8 : Int) then
              Q (.inl (some (bi 1))) ι
            else
              Q (.inl (some (bi 2))) ι)))
      else
        Q (.inl (some (bi 1))) ι)
    else
      Q (.inl (some (bi 0))) ι)) :
  bC sc 204 [bi x0] ι Q := bm_snd 204 [] 18 h
-- M_copyEight
set_option maxRecDepth 100000 in
theorem e_M_copyEight_0 {sc : bm_Sc} {Q : bm_O → bm_S → Prop} {x0 : Int} {ι : bm_S}
  (h : (if x0 = (0 : Int) then
      Q (.inl (some (bi 0))) ι
    else
      (if x0 = (2 : Int) then
        Q (.inl (some (bi 0))) ι
      else
        (if x0 = (4 : Int) then
          Q (.inl (some (bi 0))) ι
        else
          (if x0 = (7 : Int) then
            Q (.inl (some (bi 0))) ι
          else
            (if x0 = (1 : Int) then
              Q (.inl (some (bi 1))) ι
            else
              (if x0 = (3 : Int) then
                Q (.inl (some (bi 1))) ι
              else
                (if x0 = (5 : Int) then
                  Q (.inl (some (bi 1))) ι
                else
                  (if x0 = (9 : Int) then
                    Q (.inl (some (bi 1))) ι
                  else
                    Q (.inl (some (bi 2))) ι))))))))) :
  bC sc 205 [bi x0] ι Q := bm_snd 205 [] 26 h
-- M_isVowel
set_option maxRecDepth 100000 in
theorem e_M_isVowel_0 {sc : bm_Sc} {Q : bm_O → bm_S → Prop} {x0 : Int} {ι : bm_S}
  (h : (if x0 = (97 : Int) then
      ((1 : Int) = 0 ∨ (1 : Int) = 1) ∧
      Q (.inl (some (bi 1))) ι
    else
      (if x0 = (101 : Int) then
        ((1 : Int) = 0 ∨ (1 : Int) = 1) ∧
        Q (.inl (some (bi 1))) ι
      else
        (if x0 = (105 : Int) then
          ((1 : Int) = 0 ∨ (1 : Int) = 1) ∧
          Q (.inl (some (bi 1))) ι
        else
          (if x0 = (111 : Int) then
            ((1 : Int) = 0 ∨ (1 : Int) = 1) ∧
            Q (.inl (some (bi 1))) ι
          else
            (if x0 = (117 : Int) then
              ((1 : Int) = 0 ∨ (1 : Int) = 1) ∧
              Q (.inl (some (bi 1))) ι
            else
              ((0 : Int) = 0 ∨ (0 : Int) = 1) ∧
              Q (.inl (some (bi 0))) ι)))))) :
  bC sc 206 [bi x0] ι Q := bm_snd 206 [] 18 h
-- M_isOneOf
set_option maxRecDepth 100000 in
theorem e_M_isOneOf_0 {sc : bm_Sc} {Q : bm_O → bm_S → Prop} {x0 : Int} {x1 : Int} {x2 : Int} {x3 : Int} {x4 : Int} {ι : bm_S}
  (h : (if x0 = x1 then
      ((1 : Int) = 0 ∨ (1 : Int) = 1) ∧
      Q (.inl (some (bi 1))) ι
    else
      (if x0 = x2 then
        ((1 : Int) = 0 ∨ (1 : Int) = 1) ∧
        Q (.inl (some (bi 1))) ι
      else
        (if x0 = x3 then
          ((1 : Int) = 0 ∨ (1 : Int) = 1) ∧
          Q (.inl (some (bi 1))) ι
        else
          (if x0 = x4 then
            ((1 : Int) = 0 ∨ (1 : Int) = 1) ∧
            Q (.inl (some (bi 1))) ι
          else
            ((0 : Int) = 0 ∨ (0 : Int) = 1) ∧
            Q (.inl (some (bi 0))) ι))))) :
  bC sc 207 [bi x0, bi x1, bi x2, bi x3, bi x4] ι Q := bm_snd 207 [] 15 h
-- M_first
set_option maxRecDepth 100000 in
theorem e_M_first_0 {sc : bm_Sc} {Q : bm_O → bm_S → Prop} {x0 : Int} {ι : bm_S}
  (h : (if x0 < (128 : Int) then
      (if x0 < (32 : Int) then
        bW sc 208 38 [bi x0] [] ι Q
      else
        (if x0 = (127 : Int) then
          bW sc 208 38 [bi x0] [] ι Q
        else
          (if (if (48 : Int) ≤ x0 ∧ x0 ≤ (57 : Int) then (1 : Int) else 0) = (0 : Int) then
            (if (if (65 : Int) ≤ x0 ∧ x0 ≤ (90 : Int) then (1 : Int) else 0) = (0 : Int) then
              (if (if (97 : Int) ≤ x0 ∧ x0 ≤ (122 : Int) then (1 : Int) else 0) = (0 : Int) then
                (if x0 = (32 : Int) then
                  Q (.inl (some (bi 8))) ι
                else
                  (if x0 = (34 : Int) then
                    bW sc 208 161 [bi x0] [] ι Q
                  else
                    (if x0 = (39 : Int) then
                      bW sc 208 161 [bi x0] [] ι Q
                    else
                      (if x0 = (37 : Int) then
                        Q (.inl (some (bi 20))) ι
                      else
                        bC sc 207 [bi x0, bi 40, bi 60, bi 91, bi 123] ι (bk1 (fun r1 ι1 => 
                          (if r1 = (0 : Int) then
                            bC sc 207 [bi x0, bi 41, bi 62, bi 93, bi 125] ι1 (bk1 (fun r2 ι2 => 
                              (if r2 = (0 : Int) then
                                (if x0 = (44 : Int) then
                                  bW sc 208 227 [bi x0] [] ι2 Q
                                else
                                  (if x0 = (58 : Int) then
                                    bW sc 208 227 [bi x0] [] ι2 Q
                                  else
                                    (if x0 = (59 : Int) then
                                      bW sc 208 227 [bi x0] [] ι2 Q
                                    else
                                      (if x0 = (46 : Int) then
                                        Q (.inl (some (bi 36))) ι2
                                      else
                                        (if x0 = (61 : Int) then
                                          Q (.inl (some (bi 40))) ι2
                                        else
                                          Q (.inl (some (bi 12))) ι2)))))
                              else
                                Q (.inl (some (bi 28))) ι2)) (bq Q))
                          else
                            Q (.inl (some (bi 24))) ι1)) (bq Q))))))
              else
                bC sc 206 [bi x0] ι (bk1 (fun r3 ι3 => 
                  (if r3 = (0 : Int) then
                    Q (.inl (some (bi 60))) ι3
                  else
                    Q (.inl (some (bi 56))) ι3)) (bq Q)))
            else
              (bm_rg (x0 + 32)) ∧
              bC sc 206 [bi (x0 + 32)] ι (bk1 (fun r4 ι4 => 
                (if r4 = (0 : Int) then
                  Q (.inl (some (bi 52))) ι4
                else
                  Q (.inl (some (bi 48))) ι4)) (bq Q)))
          else
            Q (.inl (some (bi 44))) ι)))
    else
      (if (192 : Int) ≤ x0 then
        (0 ≤ x0 ∧ 0 < (2 : Int)) ∧
        (bm_rg (x0 % 2 + 2)) ∧
        Q (.inl (some (bi (x0 % 2 + 2)))) ι
      else
        (0 ≤ x0 ∧ 0 < (2 : Int)) ∧
        Q (.inl (some (bi (x0 % 2)))) ι))) :
  bC sc 208 [bi x0] ι Q := bm_snd 208 [38, 56, 161, 227] 71 h
