/-! the law's walk -/
theorem am_rows_ok (y : Nat) (hy : y < 265) : am_mrchk y = true := by
  rcases Nat.lt_or_ge y 10 with h | h10
  · exact am_range (k := 0) am_row_0 (by omega) (by omega)
  rcases Nat.lt_or_ge y 20 with h | h20
  · exact am_range (k := 10) am_row_10 (by omega) (by omega)
  rcases Nat.lt_or_ge y 30 with h | h30
  · exact am_range (k := 20) am_row_20 (by omega) (by omega)
  rcases Nat.lt_or_ge y 40 with h | h40
  · exact am_range (k := 30) am_row_30 (by omega) (by omega)
  rcases Nat.lt_or_ge y 50 with h | h50
  · exact am_range (k := 40) am_row_40 (by omega) (by omega)
  rcases Nat.lt_or_ge y 60 with h | h60
  · exact am_range (k := 50) am_row_50 (by omega) (by omega)
  rcases Nat.lt_or_ge y 70 with h | h70
  · exact am_range (k := 60) am_row_60 (by omega) (by omega)
  rcases Nat.lt_or_ge y 80 with h | h80
  · exact am_range (k := 70) am_row_70 (by omega) (by omega)
  rcases Nat.lt_or_ge y 90 with h | h90
  · exact am_range (k := 80) am_row_80 (by omega) (by omega)
  rcases Nat.lt_or_ge y 100 with h | h100
  · exact am_range (k := 90) am_row_90 (by omega) (by omega)
  rcases Nat.lt_or_ge y 110 with h | h110
  · exact am_range (k := 100) am_row_100 (by omega) (by omega)
  rcases Nat.lt_or_ge y 120 with h | h120
  · exact am_range (k := 110) am_row_110 (by omega) (by omega)
  rcases Nat.lt_or_ge y 130 with h | h130
  · exact am_range (k := 120) am_row_120 (by omega) (by omega)
  rcases Nat.lt_or_ge y 140 with h | h140
  · exact am_range (k := 130) am_row_130 (by omega) (by omega)
  rcases Nat.lt_or_ge y 150 with h | h150
  · exact am_range (k := 140) am_row_140 (by omega) (by omega)
  rcases Nat.lt_or_ge y 160 with h | h160
  · exact am_range (k := 150) am_row_150 (by omega) (by omega)
  rcases Nat.lt_or_ge y 170 with h | h170
  · exact am_range (k := 160) am_row_160 (by omega) (by omega)
  rcases Nat.lt_or_ge y 180 with h | h180
  · exact am_range (k := 170) am_row_170 (by omega) (by omega)
  rcases Nat.lt_or_ge y 190 with h | h190
  · exact am_range (k := 180) am_row_180 (by omega) (by omega)
  rcases Nat.lt_or_ge y 200 with h | h200
  · exact am_range (k := 190) am_row_190 (by omega) (by omega)
  rcases Nat.lt_or_ge y 210 with h | h210
  · exact am_range (k := 200) am_row_200 (by omega) (by omega)
  rcases Nat.lt_or_ge y 220 with h | h220
  · exact am_range (k := 210) am_row_210 (by omega) (by omega)
  rcases Nat.lt_or_ge y 230 with h | h230
  · exact am_range (k := 220) am_row_220 (by omega) (by omega)
  rcases Nat.lt_or_ge y 240 with h | h240
  · exact am_range (k := 230) am_row_230 (by omega) (by omega)
  rcases Nat.lt_or_ge y 250 with h | h250
  · exact am_range (k := 240) am_row_240 (by omega) (by omega)
  rcases Nat.lt_or_ge y 260 with h | h260
  · exact am_range (k := 250) am_row_250 (by omega) (by omega)
  exact am_range (k := 260) am_row_260 (by omega) (by omega)
set_option maxRecDepth 100000 in
theorem lx_r0 : am_RowAt 264 0 (.new 7, 3, 0, 11, 5, 0, []) := am_rowAt (am_rows_ok 264 (by omega)) rfl
set_option maxRecDepth 100000 in
theorem lx_r3 : am_RowAt 264 3 (.dup, 1, 0, 0, 0, 0, []) := am_rowAt (am_rows_ok 264 (by omega)) rfl
set_option maxRecDepth 100000 in
theorem lx_r4 : am_RowAt 264 4 (.invokespecial 9, 3, 0, 120, 1, 11, []) := am_rowAt (am_rows_ok 264 (by omega)) rfl
set_option maxRecDepth 100000 in
theorem lx_r7x : am_RowAt 264 7 (.astore_n 1, 1, 0, 1, 0, 0, []) := am_rowAt (am_rows_ok 264 (by omega)) rfl
set_option maxRecDepth 100000 in
theorem lx_r8x : am_RowAt 264 8 (.new 10, 3, 0, 13, 65, 0, []) := am_rowAt (am_rows_ok 264 (by omega)) rfl
set_option maxRecDepth 100000 in
theorem lx_r11 : am_RowAt 264 11 (.dup, 1, 0, 0, 0, 0, []) := am_rowAt (am_rows_ok 264 (by omega)) rfl
set_option maxRecDepth 100000 in
theorem lx_r12 : am_RowAt 264 12 (.invokespecial 12, 3, 0, 153, 1, 13, []) := am_rowAt (am_rows_ok 264 (by omega)) rfl
set_option maxRecDepth 100000 in
theorem lx_r15 : am_RowAt 264 15 (.astore_n 2, 1, 0, 2, 0, 0, []) := am_rowAt (am_rows_ok 264 (by omega)) rfl
set_option maxRecDepth 100000 in
theorem lx_r16 : am_RowAt 264 16 (.iconst 0, 1, 0, 0, 0, 0, []) := am_rowAt (am_rows_ok 264 (by omega)) rfl
set_option maxRecDepth 100000 in
theorem lx_r17 : am_RowAt 264 17 (.istore_n 3, 1, 0, 3, 0, 0, []) := am_rowAt (am_rows_ok 264 (by omega)) rfl
theorem lw_h2 : ah_n am_h2 ≤ 381 ∧ ah_sl am_h2 ≤ 207889 := by decide +kernel
theorem lw_ml : am_ml 264 = 4 := by decide +kernel
set_option maxRecDepth 100000 in
theorem lw_md : am_md[264]? = some (⟨"BrotliWordsLaw", "law", "([I)Z"⟩, 4, some .boolean, 14, 11, 267, []) := rfl
theorem lw_e1 : ah_n (bm_h ι0) = 382 := rfl
theorem lw_e2 : ah_sl (bm_h ι0) = 207954 := rfl
theorem lw_al : ah_al (bm_h ι0) = ah_al am_h4 := by
  have eB : (bm_h ι0).1 = (382, ah_al am_h4, ah_ad am_h4, am_LN, 207954, am_h4.1.2.2.2.2.2) := by rw [sw_B0]; unfold am_B0; rfl
  show (bm_h ι0).1.2.1 = _; rw [eB]
theorem lw_ad : ah_ad (bm_h ι0) = ah_ad am_h4 := by
  have eB : (bm_h ι0).1 = (382, ah_al am_h4, ah_ad am_h4, am_LN, 207954, am_h4.1.2.2.2.2.2) := by rw [sw_B0]; unfold am_B0; rfl
  show (bm_h ι0).1.2.2.1 = _; rw [eB]
theorem lw_gq {x : Nat × Nat} (h : am_gq am_h4 x) : am_gq (bm_h ι0) x := by
  unfold am_gq at h ⊢
  rw [lw_al, lw_ad, lw_e1]
  rw [am_h4_n.1] at h
  exact h
theorem lw_gv {v : am_V} (h : am_gv am_h4 v) : am_gv (bm_h ι0) v := by
  rcases v with x | x | _ | q
  · trivial
  · trivial
  · trivial
  · exact lw_gq h
/-- the run from the loop on -/
theorem lw_run {L : Nat} {xs : Nat → Int32} (hL : L ≤ 384) : ∃ (n : Nat) (ι' : bm_S), am_run am_ak (bm_X32 (L, xs)) (bm_XLn (L, xs)) am_code am_ml n 264 18 [av_r 211 0, av_r 11 0, av_r 13 0, av_i 0] [] (bm_h ι0) = some (.inl (some (av_i 1)), bm_h ι') := by
  have h := law_loop (sc := (L, xs)) hL (L + 1) 0 ι0 (by rw [XL_211]; show (L : Int) - 0 < ((L + 1 : Nat) : Int); omega) (by omega) (by rw [XL_211]; show (0 : Int) ≤ (L : Int); omega) ι0_JJ
  have hlr : bm_lr [br 211 0, br 11 0, br 13 0, bi 0] := fun v hv => by
    simp only [List.mem_cons, List.not_mem_nil, or_false] at hv
    rcases hv with rfl | rfl | rfl | rfl
    · exact ⟨by omega, by omega, fun q => by omega⟩
    · exact ⟨by omega, by omega, fun q => by omega⟩
    · exact ⟨by omega, by omega, fun q => by omega⟩
    · show bm_rg 0; omega
  obtain ⟨o, ι', e, -, -, hq⟩ := h (show L < 1000000 by omega) ι0_sr hlr (fun v hv => by cases hv)
  have hq : o = .inl (some (bi 1)) := hq
  subst hq
  obtain ⟨n, hn⟩ := am_res_run am_ak (bm_X32 (L, xs)) (bm_XLn (L, xs)) am_code am_ml e
  have z0 : Int32.ofInt 0 = 0 := by decide
  have z1 : Int32.ofInt 1 = 1 := by decide
  have hn' : am_run am_ak (bm_X32 (L, xs)) (bm_XLn (L, xs)) am_code am_ml n 264 18 [av_r 211 0, av_r 11 0, av_r 13 0, av_i (Int32.ofInt 0)] [] (bm_h ι0) = some (.inl (some (av_i (Int32.ofInt 1))), bm_h ι') := hn
  rw [z0, z1] at hn'
  exact ⟨n, ι', hn'⟩
