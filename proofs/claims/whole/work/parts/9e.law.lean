/-! the law: its loop and its cases -/
set_option maxRecDepth 100000 in
theorem e_law_18 {sc : bm_Sc} {Q : bm_O → bm_S → Prop} {x3 : Int} {ι : bm_S}
  (h : (bm_rg (bm_XL sc 211 - 6)) ∧
    (if bm_XL sc 211 - 6 < x3 then
      ((1 : Int) = 0 ∨ (1 : Int) = 1) ∧
      Q (.inl (some (bi 1))) ι
    else
      (0 ≤ x3 ∧ x3 < bm_XL sc 211) ∧
      (if bm_X sc 211 x3 % 32 = 0 then
        bW sc 264 128 [br 211 0, br 11 0, br 13 0, bi x3] [] ι Q
      else
        (if bm_X sc 211 x3 % 32 = 1 then
          bW sc 264 191 [br 211 0, br 11 0, br 13 0, bi x3] [] ι Q
        else
          (if bm_X sc 211 x3 % 32 = 2 then
            bW sc 264 214 [br 211 0, br 11 0, br 13 0, bi x3] [] ι Q
          else
            (if bm_X sc 211 x3 % 32 = 3 then
              bW sc 264 247 [br 211 0, br 11 0, br 13 0, bi x3] [] ι Q
            else
              (if bm_X sc 211 x3 % 32 = 4 then
                bW sc 264 280 [br 211 0, br 11 0, br 13 0, bi x3] [] ι Q
              else
                (if bm_X sc 211 x3 % 32 = 5 then
                  bW sc 264 293 [br 211 0, br 11 0, br 13 0, bi x3] [] ι Q
                else
                  (if bm_X sc 211 x3 % 32 = 6 then
                    bW sc 264 306 [br 211 0, br 11 0, br 13 0, bi x3] [] ι Q
                  else
                    (if bm_X sc 211 x3 % 32 = 7 then
                      bW sc 264 319 [br 211 0, br 11 0, br 13 0, bi x3] [] ι Q
                    else
                      (if bm_X sc 211 x3 % 32 = 8 then
                        bW sc 264 332 [br 211 0, br 11 0, br 13 0, bi x3] [] ι Q
                      else
                        (if bm_X sc 211 x3 % 32 = 9 then
                          bW sc 264 385 [br 211 0, br 11 0, br 13 0, bi x3] [] ι Q
                        else
                          (if bm_X sc 211 x3 % 32 = 10 then
                            bW sc 264 408 [br 211 0, br 11 0, br 13 0, bi x3] [] ι Q
                          else
                            (if bm_X sc 211 x3 % 32 = 11 then
                              bW sc 264 421 [br 211 0, br 11 0, br 13 0, bi x3] [] ι Q
                            else
                              (if bm_X sc 211 x3 % 32 = 12 then
                                bW sc 264 434 [br 211 0, br 11 0, br 13 0, bi x3] [] ι Q
                              else
                                (if bm_X sc 211 x3 % 32 = 13 then
                                  bW sc 264 457 [br 211 0, br 11 0, br 13 0, bi x3] [] ι Q
                                else
                                  (if bm_X sc 211 x3 % 32 = 14 then
                                    bW sc 264 470 [br 211 0, br 11 0, br 13 0, bi x3] [] ι Q
                                  else
                                    (if bm_X sc 211 x3 % 32 = 15 then
                                      bW sc 264 503 [br 211 0, br 11 0, br 13 0, bi x3] [] ι Q
                                    else
                                      (if bm_X sc 211 x3 % 32 = 16 then
                                        bW sc 264 526 [br 211 0, br 11 0, br 13 0, bi x3] [] ι Q
                                      else
                                        (if bm_X sc 211 x3 % 32 = 17 then
                                          bW sc 264 559 [br 211 0, br 11 0, br 13 0, bi x3] [] ι Q
                                        else
                                          (if bm_X sc 211 x3 % 32 = 18 then
                                            bW sc 264 602 [br 211 0, br 11 0, br 13 0, bi x3] [] ι Q
                                          else
                                            (if bm_X sc 211 x3 % 32 = 19 then
                                              bW sc 264 635 [br 211 0, br 11 0, br 13 0, bi x3] [] ι Q
                                            else
                                              bW sc 264 658 [br 211 0, br 11 0, br 13 0, bi x3] [] ι Q)))))))))))))))))))))) :
  bW sc 264 18 [br 211 0, br 11 0, br 13 0, bi x3] [] ι Q := bm_snd 264 [18, 128, 191, 214, 247, 280, 293, 306, 319, 332, 385, 408, 421, 434, 457, 470, 503, 526, 559, 602, 635, 658] 13 h
set_option maxRecDepth 100000 in
theorem e_law_128 {sc : bm_Sc} {Q : bm_O → bm_S → Prop} {x3 : Int} {ι : bm_S}
  (h : (bm_rg (x3 + 1)) ∧
    (0 ≤ x3 + 1 ∧ x3 + 1 < bm_XL sc 211) ∧
    (bm_rg (x3 + 2)) ∧
    (0 ≤ x3 + 2 ∧ x3 + 2 < bm_XL sc 211) ∧
    (bm_rg (x3 + 3)) ∧
    (0 ≤ x3 + 3 ∧ x3 + 3 < bm_XL sc 211) ∧
    (bm_rg (x3 + 4)) ∧
    (0 ≤ x3 + 4 ∧ x3 + 4 < bm_XL sc 211) ∧
    (bm_rg (x3 + 5)) ∧
    (0 ≤ x3 + 5 ∧ x3 + 5 < bm_XL sc 211) ∧
    bC sc 121 [br 11 0, bi (bm_X sc 211 (x3 + 1)), bi (bm_X sc 211 (x3 + 2)), bi (bm_X sc 211 (x3 + 3)), bi (bm_X sc 211 (x3 + 4)), bi (bm_X sc 211 (x3 + 5))] ι (bk1 (fun r1 ι1 => 
      (bm_rg (x3 + 1)) ∧
      (0 ≤ x3 + 1 ∧ x3 + 1 < bm_XL sc 211) ∧
      (bm_rg (x3 + 2)) ∧
      (0 ≤ x3 + 2 ∧ x3 + 2 < bm_XL sc 211) ∧
      (bm_rg (x3 + 3)) ∧
      (0 ≤ x3 + 3 ∧ x3 + 3 < bm_XL sc 211) ∧
      (bm_rg (x3 + 4)) ∧
      (0 ≤ x3 + 4 ∧ x3 + 4 < bm_XL sc 211) ∧
      (bm_rg (x3 + 5)) ∧
      (0 ≤ x3 + 5 ∧ x3 + 5 < bm_XL sc 211) ∧
      bC sc 154 [br 13 0, bi (bm_X sc 211 (x3 + 1)), bi (bm_X sc 211 (x3 + 2)), bi (bm_X sc 211 (x3 + 3)), bi (bm_X sc 211 (x3 + 4)), bi (bm_X sc 211 (x3 + 5))] ι1 (bk1 (fun r2 ι2 => 
        (if r1 = r2 then
          bW sc 264 658 [br 211 0, br 11 0, br 13 0, bi x3] [] ι2 Q
        else
          ((0 : Int) = 0 ∨ (0 : Int) = 1) ∧
          Q (.inl (some (bi 0))) ι2)) (bq Q))) (bq Q))) :
  bW sc 264 128 [br 211 0, br 11 0, br 13 0, bi x3] [] ι Q := bm_snd 264 [18, 128, 191, 214, 247, 280, 293, 306, 319, 332, 385, 408, 421, 434, 457, 470, 503, 526, 559, 602, 635, 658] 57 h
set_option maxRecDepth 100000 in
theorem e_law_191 {sc : bm_Sc} {Q : bm_O → bm_S → Prop} {x3 : Int} {ι : bm_S}
  (h : (bm_rg (x3 + 1)) ∧
    (0 ≤ x3 + 1 ∧ x3 + 1 < bm_XL sc 211) ∧
    bC sc 122 [br 11 0, bi (bm_X sc 211 (x3 + 1))] ι (bk1 (fun r1 ι1 => 
      (bm_rg (x3 + 1)) ∧
      (0 ≤ x3 + 1 ∧ x3 + 1 < bm_XL sc 211) ∧
      bC sc 155 [br 13 0, bi (bm_X sc 211 (x3 + 1))] ι1 (bk1 (fun r2 ι2 => 
        (if r1 = r2 then
          bW sc 264 658 [br 211 0, br 11 0, br 13 0, bi x3] [] ι2 Q
        else
          ((0 : Int) = 0 ∨ (0 : Int) = 1) ∧
          Q (.inl (some (bi 0))) ι2)) (bq Q))) (bq Q))) :
  bW sc 264 191 [br 211 0, br 11 0, br 13 0, bi x3] [] ι Q := bm_snd 264 [18, 128, 191, 214, 247, 280, 293, 306, 319, 332, 385, 408, 421, 434, 457, 470, 503, 526, 559, 602, 635, 658] 17 h
set_option maxRecDepth 100000 in
theorem e_law_214 {sc : bm_Sc} {Q : bm_O → bm_S → Prop} {x3 : Int} {ι : bm_S}
  (h : (bm_rg (x3 + 1)) ∧
    (0 ≤ x3 + 1 ∧ x3 + 1 < bm_XL sc 211) ∧
    (bm_rg (x3 + 2)) ∧
    (0 ≤ x3 + 2 ∧ x3 + 2 < bm_XL sc 211) ∧
    bC sc 123 [br 11 0, bi (bm_X sc 211 (x3 + 1)), bi (bm_X sc 211 (x3 + 2))] ι (bk1 (fun r1 ι1 => 
      (bm_rg (x3 + 1)) ∧
      (0 ≤ x3 + 1 ∧ x3 + 1 < bm_XL sc 211) ∧
      (bm_rg (x3 + 2)) ∧
      (0 ≤ x3 + 2 ∧ x3 + 2 < bm_XL sc 211) ∧
      bC sc 156 [br 13 0, bi (bm_X sc 211 (x3 + 1)), bi (bm_X sc 211 (x3 + 2))] ι1 (bk1 (fun r2 ι2 => 
        (if r1 = r2 then
          bW sc 264 658 [br 211 0, br 11 0, br 13 0, bi x3] [] ι2 Q
        else
          ((0 : Int) = 0 ∨ (0 : Int) = 1) ∧
          Q (.inl (some (bi 0))) ι2)) (bq Q))) (bq Q))) :
  bW sc 264 214 [br 211 0, br 11 0, br 13 0, bi x3] [] ι Q := bm_snd 264 [18, 128, 191, 214, 247, 280, 293, 306, 319, 332, 385, 408, 421, 434, 457, 470, 503, 526, 559, 602, 635, 658] 27 h
set_option maxRecDepth 100000 in
theorem e_law_247 {sc : bm_Sc} {Q : bm_O → bm_S → Prop} {x3 : Int} {ι : bm_S}
  (h : (bm_rg (x3 + 1)) ∧
    (0 ≤ x3 + 1 ∧ x3 + 1 < bm_XL sc 211) ∧
    (bm_rg (x3 + 2)) ∧
    (0 ≤ x3 + 2 ∧ x3 + 2 < bm_XL sc 211) ∧
    bC sc 124 [br 11 0, bi (bm_X sc 211 (x3 + 1)), bi (bm_X sc 211 (x3 + 2))] ι (bk1 (fun r1 ι1 => 
      (bm_rg (x3 + 1)) ∧
      (0 ≤ x3 + 1 ∧ x3 + 1 < bm_XL sc 211) ∧
      (bm_rg (x3 + 2)) ∧
      (0 ≤ x3 + 2 ∧ x3 + 2 < bm_XL sc 211) ∧
      bC sc 157 [br 13 0, bi (bm_X sc 211 (x3 + 1)), bi (bm_X sc 211 (x3 + 2))] ι1 (bk1 (fun r2 ι2 => 
        (if r1 = r2 then
          bW sc 264 658 [br 211 0, br 11 0, br 13 0, bi x3] [] ι2 Q
        else
          ((0 : Int) = 0 ∨ (0 : Int) = 1) ∧
          Q (.inl (some (bi 0))) ι2)) (bq Q))) (bq Q))) :
  bW sc 264 247 [br 211 0, br 11 0, br 13 0, bi x3] [] ι Q := bm_snd 264 [18, 128, 191, 214, 247, 280, 293, 306, 319, 332, 385, 408, 421, 434, 457, 470, 503, 526, 559, 602, 635, 658] 27 h
set_option maxRecDepth 100000 in
theorem e_law_280 {sc : bm_Sc} {Q : bm_O → bm_S → Prop} {x3 : Int} {ι : bm_S}
  (h : bC sc 125 [br 11 0] ι (bk1 (fun r1 ι1 => 
      bC sc 159 [br 13 0] ι1 (bk1 (fun r2 ι2 => 
        (if r1 = r2 then
          bW sc 264 658 [br 211 0, br 11 0, br 13 0, bi x3] [] ι2 Q
        else
          ((0 : Int) = 0 ∨ (0 : Int) = 1) ∧
          Q (.inl (some (bi 0))) ι2)) (bq Q))) (bq Q))) :
  bW sc 264 280 [br 211 0, br 11 0, br 13 0, bi x3] [] ι Q := bm_snd 264 [18, 128, 191, 214, 247, 280, 293, 306, 319, 332, 385, 408, 421, 434, 457, 470, 503, 526, 559, 602, 635, 658] 7 h
set_option maxRecDepth 100000 in
theorem e_law_293 {sc : bm_Sc} {Q : bm_O → bm_S → Prop} {x3 : Int} {ι : bm_S}
  (h : bC sc 126 [br 11 0] ι (bk1 (fun r1 ι1 => 
      bC sc 161 [br 13 0] ι1 (bk1 (fun r2 ι2 => 
        (if r1 = r2 then
          bW sc 264 658 [br 211 0, br 11 0, br 13 0, bi x3] [] ι2 Q
        else
          ((0 : Int) = 0 ∨ (0 : Int) = 1) ∧
          Q (.inl (some (bi 0))) ι2)) (bq Q))) (bq Q))) :
  bW sc 264 293 [br 211 0, br 11 0, br 13 0, bi x3] [] ι Q := bm_snd 264 [18, 128, 191, 214, 247, 280, 293, 306, 319, 332, 385, 408, 421, 434, 457, 470, 503, 526, 559, 602, 635, 658] 7 h
set_option maxRecDepth 100000 in
theorem e_law_306 {sc : bm_Sc} {Q : bm_O → bm_S → Prop} {x3 : Int} {ι : bm_S}
  (h : bC sc 127 [br 11 0] ι (bk1 (fun r1 ι1 => 
      bC sc 163 [br 13 0] ι1 (bk1 (fun r2 ι2 => 
        (if r1 = r2 then
          bW sc 264 658 [br 211 0, br 11 0, br 13 0, bi x3] [] ι2 Q
        else
          ((0 : Int) = 0 ∨ (0 : Int) = 1) ∧
          Q (.inl (some (bi 0))) ι2)) (bq Q))) (bq Q))) :
  bW sc 264 306 [br 211 0, br 11 0, br 13 0, bi x3] [] ι Q := bm_snd 264 [18, 128, 191, 214, 247, 280, 293, 306, 319, 332, 385, 408, 421, 434, 457, 470, 503, 526, 559, 602, 635, 658] 7 h
set_option maxRecDepth 100000 in
theorem e_law_319 {sc : bm_Sc} {Q : bm_O → bm_S → Prop} {x3 : Int} {ι : bm_S}
  (h : bC sc 128 [br 11 0] ι (bk1 (fun r1 ι1 => 
      bC sc 165 [br 13 0] ι1 (bk1 (fun r2 ι2 => 
        (if r1 = r2 then
          bW sc 264 658 [br 211 0, br 11 0, br 13 0, bi x3] [] ι2 Q
        else
          ((0 : Int) = 0 ∨ (0 : Int) = 1) ∧
          Q (.inl (some (bi 0))) ι2)) (bq Q))) (bq Q))) :
  bW sc 264 319 [br 211 0, br 11 0, br 13 0, bi x3] [] ι Q := bm_snd 264 [18, 128, 191, 214, 247, 280, 293, 306, 319, 332, 385, 408, 421, 434, 457, 470, 503, 526, 559, 602, 635, 658] 7 h
set_option maxRecDepth 100000 in
theorem e_law_332 {sc : bm_Sc} {Q : bm_O → bm_S → Prop} {x3 : Int} {ι : bm_S}
  (h : (bm_rg (x3 + 1)) ∧
    (0 ≤ x3 + 1 ∧ x3 + 1 < bm_XL sc 211) ∧
    (bm_rg (x3 + 2)) ∧
    (0 ≤ x3 + 2 ∧ x3 + 2 < bm_XL sc 211) ∧
    (bm_rg (x3 + 3)) ∧
    (0 ≤ x3 + 3 ∧ x3 + 3 < bm_XL sc 211) ∧
    (bm_rg (x3 + 4)) ∧
    (0 ≤ x3 + 4 ∧ x3 + 4 < bm_XL sc 211) ∧
    bC sc 129 [br 11 0, bi (bm_X sc 211 (x3 + 1)), bi (bm_X sc 211 (x3 + 2)), bi (bm_X sc 211 (x3 + 3)), bi (bm_X sc 211 (x3 + 4))] ι (bk1 (fun r1 ι1 => 
      (bm_rg (x3 + 1)) ∧
      (0 ≤ x3 + 1 ∧ x3 + 1 < bm_XL sc 211) ∧
      (bm_rg (x3 + 2)) ∧
      (0 ≤ x3 + 2 ∧ x3 + 2 < bm_XL sc 211) ∧
      (bm_rg (x3 + 3)) ∧
      (0 ≤ x3 + 3 ∧ x3 + 3 < bm_XL sc 211) ∧
      (bm_rg (x3 + 4)) ∧
      (0 ≤ x3 + 4 ∧ x3 + 4 < bm_XL sc 211) ∧
      bC sc 169 [br 13 0, bi (bm_X sc 211 (x3 + 1)), bi (bm_X sc 211 (x3 + 2)), bi (bm_X sc 211 (x3 + 3)), bi (bm_X sc 211 (x3 + 4))] ι1 (bk1 (fun r2 ι2 => 
        (if r1 = r2 then
          bW sc 264 658 [br 211 0, br 11 0, br 13 0, bi x3] [] ι2 Q
        else
          ((0 : Int) = 0 ∨ (0 : Int) = 1) ∧
          Q (.inl (some (bi 0))) ι2)) (bq Q))) (bq Q))) :
  bW sc 264 332 [br 211 0, br 11 0, br 13 0, bi x3] [] ι Q := bm_snd 264 [18, 128, 191, 214, 247, 280, 293, 306, 319, 332, 385, 408, 421, 434, 457, 470, 503, 526, 559, 602, 635, 658] 47 h
set_option maxRecDepth 100000 in
theorem e_law_385 {sc : bm_Sc} {Q : bm_O → bm_S → Prop} {x3 : Int} {ι : bm_S}
  (h : (bm_rg (x3 + 1)) ∧
    (0 ≤ x3 + 1 ∧ x3 + 1 < bm_XL sc 211) ∧
    bC sc 130 [br 11 0, bi (bm_X sc 211 (x3 + 1))] ι (bk1 (fun r1 ι1 => 
      (bm_rg (x3 + 1)) ∧
      (0 ≤ x3 + 1 ∧ x3 + 1 < bm_XL sc 211) ∧
      bC sc 259 [br 13 0, bi (bm_X sc 211 (x3 + 1))] ι1 (bk1 (fun r2 ι2 => 
        (if r1 = r2 then
          bW sc 264 658 [br 211 0, br 11 0, br 13 0, bi x3] [] ι2 Q
        else
          ((0 : Int) = 0 ∨ (0 : Int) = 1) ∧
          Q (.inl (some (bi 0))) ι2)) (bq Q))) (bq Q))) :
  bW sc 264 385 [br 211 0, br 11 0, br 13 0, bi x3] [] ι Q := bm_snd 264 [18, 128, 191, 214, 247, 280, 293, 306, 319, 332, 385, 408, 421, 434, 457, 470, 503, 526, 559, 602, 635, 658] 17 h
set_option maxRecDepth 100000 in
theorem e_law_408 {sc : bm_Sc} {Q : bm_O → bm_S → Prop} {x3 : Int} {ι : bm_S}
  (h : bC sc 131 [br 11 0] ι (bk1 (fun r1 ι1 => 
      bC sc 224 [br 13 0] ι1 (bk1 (fun r2 ι2 => 
        (if r1 = r2 then
          bW sc 264 658 [br 211 0, br 11 0, br 13 0, bi x3] [] ι2 Q
        else
          ((0 : Int) = 0 ∨ (0 : Int) = 1) ∧
          Q (.inl (some (bi 0))) ι2)) (bq Q))) (bq Q))) :
  bW sc 264 408 [br 211 0, br 11 0, br 13 0, bi x3] [] ι Q := bm_snd 264 [18, 128, 191, 214, 247, 280, 293, 306, 319, 332, 385, 408, 421, 434, 457, 470, 503, 526, 559, 602, 635, 658] 7 h
set_option maxRecDepth 100000 in
theorem e_law_421 {sc : bm_Sc} {Q : bm_O → bm_S → Prop} {x3 : Int} {ι : bm_S}
  (h : bC sc 132 [br 11 0] ι (bk1 (fun r1 ι1 => 
      bC sc 225 [br 13 0] ι1 (bk1 (fun r2 ι2 => 
        (if r1 = r2 then
          bW sc 264 658 [br 211 0, br 11 0, br 13 0, bi x3] [] ι2 Q
        else
          ((0 : Int) = 0 ∨ (0 : Int) = 1) ∧
          Q (.inl (some (bi 0))) ι2)) (bq Q))) (bq Q))) :
  bW sc 264 421 [br 211 0, br 11 0, br 13 0, bi x3] [] ι Q := bm_snd 264 [18, 128, 191, 214, 247, 280, 293, 306, 319, 332, 385, 408, 421, 434, 457, 470, 503, 526, 559, 602, 635, 658] 7 h
set_option maxRecDepth 100000 in
theorem e_law_434 {sc : bm_Sc} {Q : bm_O → bm_S → Prop} {x3 : Int} {ι : bm_S}
  (h : (bm_rg (x3 + 1)) ∧
    (0 ≤ x3 + 1 ∧ x3 + 1 < bm_XL sc 211) ∧
    bC sc 133 [br 11 0, bi (bm_X sc 211 (x3 + 1))] ι (bk1 (fun r1 ι1 => 
      (bm_rg (x3 + 1)) ∧
      (0 ≤ x3 + 1 ∧ x3 + 1 < bm_XL sc 211) ∧
      bC sc 226 [br 13 0, bi (bm_X sc 211 (x3 + 1))] ι1 (bk1 (fun r2 ι2 => 
        (if r1 = r2 then
          bW sc 264 658 [br 211 0, br 11 0, br 13 0, bi x3] [] ι2 Q
        else
          ((0 : Int) = 0 ∨ (0 : Int) = 1) ∧
          Q (.inl (some (bi 0))) ι2)) (bq Q))) (bq Q))) :
  bW sc 264 434 [br 211 0, br 11 0, br 13 0, bi x3] [] ι Q := bm_snd 264 [18, 128, 191, 214, 247, 280, 293, 306, 319, 332, 385, 408, 421, 434, 457, 470, 503, 526, 559, 602, 635, 658] 17 h
set_option maxRecDepth 100000 in
theorem e_law_457 {sc : bm_Sc} {Q : bm_O → bm_S → Prop} {x3 : Int} {ι : bm_S}
  (h : bC sc 134 [br 11 0] ι (bk1 (fun r1 ι1 => 
      bC sc 227 [br 13 0] ι1 (bk1 (fun r2 ι2 => 
        (if r1 = r2 then
          bW sc 264 658 [br 211 0, br 11 0, br 13 0, bi x3] [] ι2 Q
        else
          ((0 : Int) = 0 ∨ (0 : Int) = 1) ∧
          Q (.inl (some (bi 0))) ι2)) (bq Q))) (bq Q))) :
  bW sc 264 457 [br 211 0, br 11 0, br 13 0, bi x3] [] ι Q := bm_snd 264 [18, 128, 191, 214, 247, 280, 293, 306, 319, 332, 385, 408, 421, 434, 457, 470, 503, 526, 559, 602, 635, 658] 7 h
set_option maxRecDepth 100000 in
theorem e_law_470 {sc : bm_Sc} {Q : bm_O → bm_S → Prop} {x3 : Int} {ι : bm_S}
  (h : (bm_rg (x3 + 1)) ∧
    (0 ≤ x3 + 1 ∧ x3 + 1 < bm_XL sc 211) ∧
    (bm_rg (x3 + 2)) ∧
    (0 ≤ x3 + 2 ∧ x3 + 2 < bm_XL sc 211) ∧
    bC sc 135 [br 11 0, bi (bm_X sc 211 (x3 + 1)), bi (bm_X sc 211 (x3 + 2))] ι (bk1 (fun r1 ι1 => 
      (bm_rg (x3 + 1)) ∧
      (0 ≤ x3 + 1 ∧ x3 + 1 < bm_XL sc 211) ∧
      (bm_rg (x3 + 2)) ∧
      (0 ≤ x3 + 2 ∧ x3 + 2 < bm_XL sc 211) ∧
      bC sc 228 [br 13 0, bi (bm_X sc 211 (x3 + 1)), bi (bm_X sc 211 (x3 + 2))] ι1 (bk1 (fun r2 ι2 => 
        (if r1 = r2 then
          bW sc 264 658 [br 211 0, br 11 0, br 13 0, bi x3] [] ι2 Q
        else
          ((0 : Int) = 0 ∨ (0 : Int) = 1) ∧
          Q (.inl (some (bi 0))) ι2)) (bq Q))) (bq Q))) :
  bW sc 264 470 [br 211 0, br 11 0, br 13 0, bi x3] [] ι Q := bm_snd 264 [18, 128, 191, 214, 247, 280, 293, 306, 319, 332, 385, 408, 421, 434, 457, 470, 503, 526, 559, 602, 635, 658] 27 h
set_option maxRecDepth 100000 in
theorem e_law_503 {sc : bm_Sc} {Q : bm_O → bm_S → Prop} {x3 : Int} {ι : bm_S}
  (h : (bm_rg (x3 + 1)) ∧
    (0 ≤ x3 + 1 ∧ x3 + 1 < bm_XL sc 211) ∧
    bC sc 136 [br 11 0, bi (bm_X sc 211 (x3 + 1))] ι (bk1 (fun r1 ι1 => 
      (bm_rg (x3 + 1)) ∧
      (0 ≤ x3 + 1 ∧ x3 + 1 < bm_XL sc 211) ∧
      bC sc 229 [br 13 0, bi (bm_X sc 211 (x3 + 1))] ι1 (bk1 (fun r2 ι2 => 
        (if r1 = r2 then
          bW sc 264 658 [br 211 0, br 11 0, br 13 0, bi x3] [] ι2 Q
        else
          ((0 : Int) = 0 ∨ (0 : Int) = 1) ∧
          Q (.inl (some (bi 0))) ι2)) (bq Q))) (bq Q))) :
  bW sc 264 503 [br 211 0, br 11 0, br 13 0, bi x3] [] ι Q := bm_snd 264 [18, 128, 191, 214, 247, 280, 293, 306, 319, 332, 385, 408, 421, 434, 457, 470, 503, 526, 559, 602, 635, 658] 17 h
set_option maxRecDepth 100000 in
theorem e_law_526 {sc : bm_Sc} {Q : bm_O → bm_S → Prop} {x3 : Int} {ι : bm_S}
  (h : (bm_rg (x3 + 1)) ∧
    (0 ≤ x3 + 1 ∧ x3 + 1 < bm_XL sc 211) ∧
    (bm_rg (x3 + 2)) ∧
    (0 ≤ x3 + 2 ∧ x3 + 2 < bm_XL sc 211) ∧
    bC sc 137 [br 11 0, bi (bm_X sc 211 (x3 + 1)), bi (bm_X sc 211 (x3 + 2))] ι (bk1 (fun r1 ι1 => 
      (bm_rg (x3 + 1)) ∧
      (0 ≤ x3 + 1 ∧ x3 + 1 < bm_XL sc 211) ∧
      (bm_rg (x3 + 2)) ∧
      (0 ≤ x3 + 2 ∧ x3 + 2 < bm_XL sc 211) ∧
      bC sc 230 [br 13 0, bi (bm_X sc 211 (x3 + 1)), bi (bm_X sc 211 (x3 + 2))] ι1 (bk1 (fun r2 ι2 => 
        (if r1 = r2 then
          bW sc 264 658 [br 211 0, br 11 0, br 13 0, bi x3] [] ι2 Q
        else
          ((0 : Int) = 0 ∨ (0 : Int) = 1) ∧
          Q (.inl (some (bi 0))) ι2)) (bq Q))) (bq Q))) :
  bW sc 264 526 [br 211 0, br 11 0, br 13 0, bi x3] [] ι Q := bm_snd 264 [18, 128, 191, 214, 247, 280, 293, 306, 319, 332, 385, 408, 421, 434, 457, 470, 503, 526, 559, 602, 635, 658] 27 h
set_option maxRecDepth 100000 in
theorem e_law_559 {sc : bm_Sc} {Q : bm_O → bm_S → Prop} {x3 : Int} {ι : bm_S}
  (h : (bm_rg (x3 + 1)) ∧
    (0 ≤ x3 + 1 ∧ x3 + 1 < bm_XL sc 211) ∧
    (bm_rg (x3 + 2)) ∧
    (0 ≤ x3 + 2 ∧ x3 + 2 < bm_XL sc 211) ∧
    (bm_rg (x3 + 3)) ∧
    (0 ≤ x3 + 3 ∧ x3 + 3 < bm_XL sc 211) ∧
    bC sc 138 [br 11 0, bi (bm_X sc 211 (x3 + 1)), bi (bm_X sc 211 (x3 + 2)), bi (bm_X sc 211 (x3 + 3))] ι (bk1 (fun r1 ι1 => 
      (bm_rg (x3 + 1)) ∧
      (0 ≤ x3 + 1 ∧ x3 + 1 < bm_XL sc 211) ∧
      (bm_rg (x3 + 2)) ∧
      (0 ≤ x3 + 2 ∧ x3 + 2 < bm_XL sc 211) ∧
      (bm_rg (x3 + 3)) ∧
      (0 ≤ x3 + 3 ∧ x3 + 3 < bm_XL sc 211) ∧
      bC sc 231 [br 13 0, bi (bm_X sc 211 (x3 + 1)), bi (bm_X sc 211 (x3 + 2)), bi (bm_X sc 211 (x3 + 3))] ι1 (bk1 (fun r2 ι2 => 
        (if r1 = r2 then
          bW sc 264 658 [br 211 0, br 11 0, br 13 0, bi x3] [] ι2 Q
        else
          ((0 : Int) = 0 ∨ (0 : Int) = 1) ∧
          Q (.inl (some (bi 0))) ι2)) (bq Q))) (bq Q))) :
  bW sc 264 559 [br 211 0, br 11 0, br 13 0, bi x3] [] ι Q := bm_snd 264 [18, 128, 191, 214, 247, 280, 293, 306, 319, 332, 385, 408, 421, 434, 457, 470, 503, 526, 559, 602, 635, 658] 37 h
set_option maxRecDepth 100000 in
theorem e_law_602 {sc : bm_Sc} {Q : bm_O → bm_S → Prop} {x3 : Int} {ι : bm_S}
  (h : (bm_rg (x3 + 1)) ∧
    (0 ≤ x3 + 1 ∧ x3 + 1 < bm_XL sc 211) ∧
    (bm_rg (x3 + 2)) ∧
    (0 ≤ x3 + 2 ∧ x3 + 2 < bm_XL sc 211) ∧
    bC sc 139 [br 11 0, bi (bm_X sc 211 (x3 + 1)), bi (bm_X sc 211 (x3 + 2))] ι (bk1 (fun r1 ι1 => 
      (bm_rg (x3 + 1)) ∧
      (0 ≤ x3 + 1 ∧ x3 + 1 < bm_XL sc 211) ∧
      (bm_rg (x3 + 2)) ∧
      (0 ≤ x3 + 2 ∧ x3 + 2 < bm_XL sc 211) ∧
      bC sc 232 [br 13 0, bi (bm_X sc 211 (x3 + 1)), bi (bm_X sc 211 (x3 + 2))] ι1 (bk1 (fun r2 ι2 => 
        (if r1 = r2 then
          bW sc 264 658 [br 211 0, br 11 0, br 13 0, bi x3] [] ι2 Q
        else
          ((0 : Int) = 0 ∨ (0 : Int) = 1) ∧
          Q (.inl (some (bi 0))) ι2)) (bq Q))) (bq Q))) :
  bW sc 264 602 [br 211 0, br 11 0, br 13 0, bi x3] [] ι Q := bm_snd 264 [18, 128, 191, 214, 247, 280, 293, 306, 319, 332, 385, 408, 421, 434, 457, 470, 503, 526, 559, 602, 635, 658] 27 h
set_option maxRecDepth 100000 in
theorem e_law_635 {sc : bm_Sc} {Q : bm_O → bm_S → Prop} {x3 : Int} {ι : bm_S}
  (h : (bm_rg (x3 + 1)) ∧
    (0 ≤ x3 + 1 ∧ x3 + 1 < bm_XL sc 211) ∧
    bC sc 140 [br 11 0, bi (bm_X sc 211 (x3 + 1))] ι (bk1 (fun r1 ι1 => 
      (bm_rg (x3 + 1)) ∧
      (0 ≤ x3 + 1 ∧ x3 + 1 < bm_XL sc 211) ∧
      bC sc 233 [br 13 0, bi (bm_X sc 211 (x3 + 1))] ι1 (bk1 (fun r2 ι2 => 
        (if r1 = r2 then
          bW sc 264 658 [br 211 0, br 11 0, br 13 0, bi x3] [] ι2 Q
        else
          ((0 : Int) = 0 ∨ (0 : Int) = 1) ∧
          Q (.inl (some (bi 0))) ι2)) (bq Q))) (bq Q))) :
  bW sc 264 635 [br 211 0, br 11 0, br 13 0, bi x3] [] ι Q := bm_snd 264 [18, 128, 191, 214, 247, 280, 293, 306, 319, 332, 385, 408, 421, 434, 457, 470, 503, 526, 559, 602, 635, 658] 17 h
set_option maxRecDepth 100000 in
theorem e_law_658 {sc : bm_Sc} {Q : bm_O → bm_S → Prop} {x3 : Int} {ι : bm_S}
  (h : (bm_rg (x3 + 6)) ∧
    bW sc 264 18 [br 211 0, br 11 0, br 13 0, bi (x3 + 6)] [] ι Q) :
  bW sc 264 658 [br 211 0, br 11 0, br 13 0, bi x3] [] ι Q := bm_snd 264 [18, 128, 191, 214, 247, 280, 293, 306, 319, 332, 385, 408, 421, 434, 457, 470, 503, 526, 559, 602, 635, 658] 3 h
