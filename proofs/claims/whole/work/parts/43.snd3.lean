/-! a stretch of the machine over Int is a run of the small machine -/
theorem bm_wtc (w : Int32) : av_i w = bm_cv (bi w.toInt) := by show av_i w = av_i (Int32.ofInt w.toInt); rw [Int32.ofInt_toInt]
theorem bm_wtl (w : Int32) : av_l w.toInt64 = bm_cv (bl w.toInt) := by
  show av_l w.toInt64 = av_l (Int64.ofInt w.toInt)
  rw [Int64.ofInt_int32ToInt]
theorem bm_vrw (w : Int32) : bm_vr (bi w.toInt) := bm_rgt w
theorem bm_vrl (w : Int32) : bm_vr (bl w.toInt) := bm_rgt w
set_option maxHeartbeats 4000000 in
theorem bm_st {sc : bm_Sc} {y : Nat} {K : Nat → List bm_V → List bm_V → bm_S → Prop} {Q : bm_O → bm_S → Prop} {pc : Nat} {ls st : List bm_V} {ι : bm_S} {row : Option am_Row}
    (hK : ∀ pc ls st ι, K pc ls st ι → bW sc y pc ls st ι Q) (hrow : am_look (am_code y) pc = row) (h : bm_step sc K Q pc ls st ι row) : bW sc y pc ls st ι Q := by
  intro hsc hι hl hs
  rw [am_res_eq, hrow]
  have G : ∀ {pc ls st ι}, bm_sr ι → bm_lr ls → bm_lr st → K pc ls st ι → bm_R Q (am_res am_ak (bm_X32 sc) (bm_XLn sc) am_code am_ml y pc (ls.map bm_cv) (st.map bm_cv) (bm_h ι)) := fun h1 h2 h3 h => hK _ _ _ _ h hsc h1 h2 h3
  rcases row with _ | ⟨i, len, w, a, b, c, tb⟩
  · exact h.elim
  · cases i with
    | iconst n => simp only [am_step]; rw [bm_wtc, ← List.map_cons]; exact G hι hl (bl_c (bm_vrw w) hs) h
    | bipush n => simp only [am_step]; rw [bm_wtc, ← List.map_cons]; exact G hι hl (bl_c (bm_vrw w) hs) h
    | sipush n => simp only [am_step]; rw [bm_wtc, ← List.map_cons]; exact G hι hl (bl_c (bm_vrw w) hs) h
    | ldc n => simp only [am_step]; rw [bm_wtc, ← List.map_cons]; exact G hι hl (bl_c (bm_vrw w) hs) h
    | ldc_w n => simp only [am_step]; rw [bm_wtc, ← List.map_cons]; exact G hι hl (bl_c (bm_vrw w) hs) h
    | lconst n => simp only [am_step]; rw [bm_wtl, ← List.map_cons]; exact G hι hl (bl_c (bm_vrl w) hs) h
    | ldc2_w n => simp only [am_step]; rw [bm_wtl, ← List.map_cons]; exact G hι hl (bl_c (bm_vrl w) hs) h
    | iload_n n => simp only [bm_step] at h; simp only [am_step]; exact bs_ldi hl h (fun v hv hk => by rw [← List.map_cons]; exact G hι hl (bl_c hv hs) hk)
    | iload n => simp only [bm_step] at h; simp only [am_step]; exact bs_ldi hl h (fun v hv hk => by rw [← List.map_cons]; exact G hι hl (bl_c hv hs) hk)
    | aload_n n => simp only [bm_step] at h; simp only [am_step]; exact bs_lda hl h (fun v hv hk => by rw [← List.map_cons]; exact G hι hl (bl_c hv hs) hk)
    | aload n => simp only [bm_step] at h; simp only [am_step]; exact bs_lda hl h (fun v hv hk => by rw [← List.map_cons]; exact G hι hl (bl_c hv hs) hk)
    | istore_n n => simp only [bm_step] at h; simp only [am_step]; exact bs_sti hl hs h (fun l r h1 h2 hk => G hι h1 h2 hk)
    | istore n => simp only [bm_step] at h; simp only [am_step]; exact bs_sti hl hs h (fun l r h1 h2 hk => G hι h1 h2 hk)
    | astore_n n => simp only [bm_step] at h; simp only [am_step]; exact bs_sta hl hs h (fun l r h1 h2 hk => G hι h1 h2 hk)
    | astore n => simp only [bm_step] at h; simp only [am_step]; exact bs_sta hl hs h (fun l r h1 h2 hk => G hι h1 h2 hk)
    | iinc k n => simp only [bm_step] at h; simp only [am_step]; exact bs_inc hl h (fun l h1 hk => G hι h1 hs hk)
    | iadd => simp only [bm_step] at h; simp only [am_step]; exact bs_bin hs (fun x y hx hy hc => ⟨(Int32.ofInt_add x y).symm, hc⟩) h (fun r hr hk => G hι hl hr hk)
    | isub => simp only [bm_step] at h; simp only [am_step]; exact bs_bin hs (fun x y hx hy hc => ⟨(Int32.ofInt_sub x y).symm, hc⟩) h (fun r hr hk => G hι hl hr hk)
    | imul => simp only [bm_step] at h; simp only [am_step]; exact bs_bin hs (fun x y hx hy hc => ⟨(Int32.ofInt_mul x y).symm, hc⟩) h (fun r hr hk => G hι hl hr hk)
    | iand => simp only [bm_step] at h; simp only [am_step]; exact bs_bin0 hs bm_band_ok h (fun r hr hk => G hι hl hr hk)
    | ior => simp only [bm_step] at h; simp only [am_step]; exact bs_bin0 hs (fun x y => ⟨(Int32.ofInt_toInt _).symm, bm_rgt _⟩) h (fun r hr hk => G hι hl hr hk)
    | ixor => simp only [bm_step] at h; simp only [am_step]; exact bs_bin0 hs (fun x y => ⟨(Int32.ofInt_toInt _).symm, bm_rgt _⟩) h (fun r hr hk => G hι hl hr hk)
    | ishl => simp only [bm_step] at h; simp only [am_step]; exact bs_bin hs (fun x y hx hy hc => ⟨bm_shl hc.1, hc.2⟩) h (fun r hr hk => G hι hl hr hk)
    | ishr => simp only [bm_step] at h; simp only [am_step]; exact bs_bin hs (fun x y hx hy hc => bm_shr hx hc) h (fun r hr hk => G hι hl hr hk)
    | iushr => simp only [bm_step] at h; simp only [am_step]; exact bs_bin0 hs (fun x y => ⟨(Int32.ofInt_toInt _).symm, bm_rgt _⟩) h (fun r hr hk => G hι hl hr hk)
    | idiv => simp only [bm_step] at h; simp only [am_step]; exact bs_div (K' := fun r => am_res am_ak (bm_X32 sc) (bm_XLn sc) am_code am_ml y (pc + len) (ls.map bm_cv) r (bm_h ι)) hs h (fun r hr hk => G hι hl hr hk)
    | irem => simp only [bm_step] at h; simp only [am_step]; exact bs_rem (K' := fun r => am_res am_ak (bm_X32 sc) (bm_XLn sc) am_code am_ml y (pc + len) (ls.map bm_cv) r (bm_h ι)) hs h (fun r hr hk => G hι hl hr hk)
    | ineg =>
      simp only [bm_step] at h
      split at h
      · rename_i x r
        have e1 : av_i (-Int32.ofInt x) = bm_cv (bi (-x)) := by show _ = av_i (Int32.ofInt (-x)); rw [Int32.ofInt_neg]
        show bm_R Q (am_res _ _ _ _ _ y (pc + len) _ (av_i (-Int32.ofInt x) :: r.map bm_cv) _)
        rw [e1, ← List.map_cons]
        exact G hι hl (bl_c h.1 (bl_t hs)) h.2
      · exact h.elim
    | i2l =>
      simp only [bm_step] at h
      split at h
      · rename_i x r
        have hx : bm_rg x := bl_h hs
        have e1 : av_l (Int32.ofInt x).toInt64 = bm_cv (bl x) := by rw [bm_wtl, bm_t hx]
        show bm_R Q (am_res _ _ _ _ _ y (pc + len) _ (av_l (Int32.ofInt x).toInt64 :: r.map bm_cv) _)
        rw [e1, ← List.map_cons]
        exact G hι hl (bl_c hx (bl_t hs)) h
      · exact h.elim
    | i2b =>
      simp only [bm_step] at h
      split at h
      · rename_i x r
        have e1 : av_i (Int32.ofInt x).toInt8.toInt32 = bm_cv (bi (bm_byte x)) := by rw [bm_byt.1]; rfl
        show bm_R Q (am_res _ _ _ _ _ y (pc + len) _ (av_i (Int32.ofInt x).toInt8.toInt32 :: r.map bm_cv) _)
        rw [e1, ← List.map_cons]
        exact G hι hl (bl_c bm_byt.2 (bl_t hs)) h
      · exact h.elim
    | dup =>
      simp only [bm_step] at h
      split at h
      · rename_i x r
        exact G (st := bi x :: bi x :: r) hι hl (bl_c (bl_h hs) hs) h
      · rename_i q r
        exact G (st := .inr (.inr q) :: .inr (.inr q) :: r) hι hl (bl_c (bl_h hs) hs) h
      · exact h.elim
    | dup2 =>
      simp only [bm_step] at h
      split at h
      · rename_i x q r
        exact G (st := bi x :: .inr (.inr q) :: bi x :: .inr (.inr q) :: r) hι hl (bl_c (bl_h hs) (bl_c (bl_h (bl_t hs)) hs)) h
      · exact h.elim
    | dup_x1 =>
      simp only [bm_step] at h
      split at h
      · rename_i x q r
        exact G (st := bi x :: .inr (.inr q) :: bi x :: r) hι hl (bl_c (bl_h hs) (bl_c (bl_h (bl_t hs)) (bl_c (bl_h hs) (bl_t (bl_t hs))))) h
      · exact h.elim
    | goto n => exact G hι hl hs h
    | if_icmp cnd n => cases cnd with
      | eq => simp only [bm_step] at h; simp only [am_step]; exact bs_cmp2 hs (fun x y A B A' B' hx hy hp hA hB => bs_if (bm_eq hx hy) hp hA hB) h (fun r hr hk => G hι hl hr hk) (fun r hr hk => G hι hl hr hk)
      | ne => simp only [bm_step] at h; simp only [am_step]; exact bs_cmp2 hs (fun x y A B A' B' hx hy hp hA hB => bs_if (bm_eq hx hy) hp hB hA) h (fun r hr hk => G hι hl hr hk) (fun r hr hk => G hι hl hr hk)
      | lt => simp only [bm_step] at h; simp only [am_step]; exact bs_cmp2 hs (fun x y A B A' B' hx hy hp hA hB => bs_if (bm_lt hx hy) hp hA hB) h (fun r hr hk => G hι hl hr hk) (fun r hr hk => G hι hl hr hk)
      | ge => simp only [bm_step] at h; simp only [am_step]; exact bs_cmp2 hs (fun x y A B A' B' hx hy hp hA hB => bs_if (bm_le hy hx) hp hA hB) h (fun r hr hk => G hι hl hr hk) (fun r hr hk => G hι hl hr hk)
      | gt => simp only [bm_step] at h; simp only [am_step]; exact bs_cmp2 hs (fun x y A B A' B' hx hy hp hA hB => bs_if (bm_lt hy hx) hp hA hB) h (fun r hr hk => G hι hl hr hk) (fun r hr hk => G hι hl hr hk)
      | le => simp only [bm_step] at h; simp only [am_step]; exact bs_cmp2 hs (fun x y A B A' B' hx hy hp hA hB => bs_if (bm_le hx hy) hp hA hB) h (fun r hr hk => G hι hl hr hk) (fun r hr hk => G hι hl hr hk)
    | ifCond cnd n => cases cnd with
      | eq => simp only [bm_step] at h; simp only [am_step]; exact bs_cmp1 hs (fun x A B A' B' hx hp hA hB => bs_if (by rw [bm_z]; exact bm_eq hx bm_rz) hp hA hB) h (fun r hr hk => G hι hl hr hk) (fun r hr hk => G hι hl hr hk)
      | ne => simp only [bm_step] at h; simp only [am_step]; exact bs_cmp1 hs (fun x A B A' B' hx hp hA hB => bs_if (by rw [bm_z]; exact bm_eq hx bm_rz) hp hB hA) h (fun r hr hk => G hι hl hr hk) (fun r hr hk => G hι hl hr hk)
      | lt => simp only [bm_step] at h; simp only [am_step]; exact bs_cmp1 hs (fun x A B A' B' hx hp hA hB => bs_if (by rw [bm_z]; exact bm_lt hx bm_rz) hp hA hB) h (fun r hr hk => G hι hl hr hk) (fun r hr hk => G hι hl hr hk)
      | ge => simp only [bm_step] at h; simp only [am_step]; exact bs_cmp1 hs (fun x A B A' B' hx hp hA hB => bs_if (by rw [bm_z]; exact bm_le bm_rz hx) hp hA hB) h (fun r hr hk => G hι hl hr hk) (fun r hr hk => G hι hl hr hk)
      | gt => simp only [bm_step] at h; simp only [am_step]; exact bs_cmp1 hs (fun x A B A' B' hx hp hA hB => bs_if (by rw [bm_z]; exact bm_lt bm_rz hx) hp hA hB) h (fun r hr hk => G hι hl hr hk) (fun r hr hk => G hι hl hr hk)
      | le => simp only [bm_step] at h; simp only [am_step]; exact bs_cmp1 hs (fun x A B A' B' hx hp hA hB => bs_if (by rw [bm_z]; exact bm_le hx bm_rz) hp hA hB) h (fun r hr hk => G hι hl hr hk) (fun r hr hk => G hι hl hr hk)
    | tableswitch d lo hi offs =>
      simp only [bm_step] at h
      split at h
      · rename_i x r
        exact bs_sw (K' := fun q => am_res am_ak (bm_X32 sc) (bm_XLn sc) am_code am_ml y q (ls.map bm_cv) (r.map bm_cv) (bm_h ι)) (bl_h hs) (fun q hq => G hι hl (bl_t hs) hq) tb h
      · exact h.elim
    | lookupswitch d ps =>
      simp only [bm_step] at h
      split at h
      · rename_i x r
        exact bs_sw (K' := fun q => am_res am_ak (bm_X32 sc) (bm_XLn sc) am_code am_ml y q (ls.map bm_cv) (r.map bm_cv) (bm_h ι)) (bl_h hs) (fun q hq => G hι hl (bl_t hs) hq) tb h
      · exact h.elim
    | iaload => simp only [bm_step] at h; simp only [am_step]; exact bs_iald hsc hι hs h (fun r hr hk => G hι hl hr hk)
    | baload => simp only [bm_step] at h; simp only [am_step]; exact bs_bald hι hs h (fun r hr hk => G hι hl hr hk)
    | aaload => simp only [bm_step] at h; simp only [am_step]; exact bs_aald hs h (fun r hr hk => G hι hl hr hk)
    | iastore => simp only [bm_step] at h; simp only [am_step]; exact bs_iast hι hs h (fun r ι h1 hr hk => G h1 hl hr hk)
    | bastore => simp only [bm_step] at h; simp only [am_step]; exact bs_bast hι hs h (fun r ι h1 hr hk => G h1 hl hr hk)
    | arraylength => simp only [bm_step] at h; simp only [am_step]; exact bs_alen hsc hs h (fun r hr hk => G hι hl hr hk)
    | getfield n => simp only [bm_step] at h; simp only [am_step]; exact bs_getf hι hs h (fun r hr hk => G hι hl hr hk)
    | putfield n => simp only [bm_step] at h; simp only [am_step]; exact bs_putf hι hs h (fun r ι h1 hr hk => G h1 hl hr hk)
    | getstatic n =>
      simp only [bm_step] at h
      cases h2 : Nat.blt 199 a <;> simp only [h2, cond_true, cond_false] at h
      have h3 := bm_bl h2
      exact G (st := br a 0 :: st) hι hl (bl_c (show (0 : Int) ≤ 0 ∧ (0 : Int) < 80 ∧ (a = 1 → (0 : Int) < 3) by omega) hs) h
    | invokestatic n =>
      simp only [bm_step] at h
      simp only [am_step]
      cases h1 : Nat.beq a 901 <;> simp only [h1, cond_true, cond_false] at h ⊢
      · cases h2 : Nat.beq a 902 <;> simp only [h2, cond_true, cond_false] at h ⊢
        · cases h3 : Nat.beq a 903 <;> simp only [h3, cond_true, cond_false] at h ⊢
          · exact bs_call (K' := fun v σ => am_res am_ak (bm_X32 sc) (bm_XLn sc) am_code am_ml y (pc + len) (ls.map bm_cv) v σ) (KH' := fun h x σ => am_res am_ak (bm_X32 sc) (bm_XLn sc) am_code am_ml y h (ls.map bm_cv) [av_r x.1 x.2] σ) hsc hι hs h (fun r ι h1 hr hk => G h1 hl hr hk) (fun z q ι h1 hq hk => G (st := [.inr (.inr q)]) h1 hl (bl_c hq (fun v hv => by cases hv)) hk)
          · refine bs_b4 hs (fun x y hx hy => ?_) h (fun r hr hk => G hι hl hr hk)
            by_cases h9 : y < x
            · rw [if_pos (by rw [bm_lt hy hx]; exact h9), Int.min_eq_right (by omega)]; exact ⟨rfl, hy⟩
            · rw [if_neg (by rw [bm_lt hy hx]; exact h9), Int.min_eq_left (by omega)]; exact ⟨rfl, hx⟩
        · refine bs_b4 hs (fun x y hx hy => ?_) h (fun r hr hk => G hι hl hr hk)
          by_cases h9 : x < y
          · rw [if_pos (by rw [bm_lt hx hy]; exact h9), Int.max_eq_right (by omega)]; exact ⟨rfl, hy⟩
          · rw [if_neg (by rw [bm_lt hx hy]; exact h9), Int.max_eq_left (by omega)]; exact ⟨rfl, hx⟩
      · exact bs_inP hs h (fun r hr hk => G hι hl hr hk)
    | invokevirtual n => simp only [bm_step] at h; simp only [am_step]; exact bs_call (K' := fun v σ => am_res am_ak (bm_X32 sc) (bm_XLn sc) am_code am_ml y (pc + len) (ls.map bm_cv) v σ) (KH' := fun h x σ => am_res am_ak (bm_X32 sc) (bm_XLn sc) am_code am_ml y h (ls.map bm_cv) [av_r x.1 x.2] σ) hsc hι hs h (fun r ι h1 hr hk => G h1 hl hr hk) (fun z q ι h1 hq hk => G (st := [.inr (.inr q)]) h1 hl (bl_c hq (fun v hv => by cases hv)) hk)
    | invokespecial n =>
      simp only [bm_step] at h
      simp only [am_step]
      cases h1 : Nat.beq a 900 <;> simp only [h1, cond_true, cond_false] at h ⊢
      exact bs_call (K' := fun v σ => am_res am_ak (bm_X32 sc) (bm_XLn sc) am_code am_ml y (pc + len) (ls.map bm_cv) v σ) (KH' := fun h x σ => am_res am_ak (bm_X32 sc) (bm_XLn sc) am_code am_ml y h (ls.map bm_cv) [av_r x.1 x.2] σ) hsc hι hs h (fun r ι h1 hr hk => G h1 hl hr hk) (fun z q ι h1 hq hk => G (st := [.inr (.inr q)]) h1 hl (bl_c hq (fun v hv => by cases hv)) hk)
    | athrow =>
      simp only [bm_step] at h
      split at h
      · rename_i t i r
        cases h2 : Nat.beq t 12 <;> simp only [h2, cond_true, cond_false] at h
        show bm_R Q (bif Nat.beq t 12 then some (.inr (t, i.toNat), bm_h ι) else none)
        rw [h2]
        exact ⟨.inr (t, i), ι, rfl, hι, bl_h hs, h⟩
      · exact h.elim
    | ireturn =>
      simp only [bm_step] at h
      split at h
      · rename_i x
        show bm_R Q (some (.inl (some (av_i (bif Nat.beq a 1 then vp_nar .boolean (Int32.ofInt x) else Int32.ofInt x))), bm_h ι))
        cases h2 : Nat.beq a 1 <;> simp only [h2, cond_true, cond_false] at h ⊢
        · exact ⟨.inl (some (bi x)), ι, rfl, hι, bl_h hs, h⟩
        · have hv : vp_nar .boolean (Int32.ofInt x) = Int32.ofInt x := by rcases h.1 with rfl | rfl <;> decide
          rw [hv]
          exact ⟨.inl (some (bi x)), ι, rfl, hι, bl_h hs, h.2⟩
      · exact h.elim
    | areturn =>
      simp only [bm_step] at h
      split at h
      · rename_i q
        exact ⟨.inl (some (.inr (.inr q))), ι, rfl, hι, bl_h hs, h⟩
      · exact h.elim
    | return_ =>
      simp only [bm_step] at h
      split at h
      · exact ⟨.inl none, ι, rfl, hι, trivial, h⟩
      · exact h.elim
    | _ => exact h.elim
theorem bm_snd {sc : bm_Sc} (y : Nat) (ct : List Nat) : ∀ (n : Nat) {pc : Nat} {ls st : List bm_V} {ι : bm_S} {Q : bm_O → bm_S → Prop}, bm_wp sc y ct Q n pc ls st ι → bW sc y pc ls st ι Q
  | 0, _, _, _, _, _, h => h
  | n + 1, pc, ls, st, ι, Q, h => by
    refine bm_st (K := fun pc ls st ι => bif ct.any (Nat.beq pc) then bW sc y pc ls st ι Q else bm_wp sc y ct Q n pc ls st ι) (fun pc ls st ι hk => ?_) rfl h
    cases h2 : ct.any (Nat.beq pc)
    · rw [h2] at hk
      exact bm_snd y ct n hk
    · rw [h2] at hk
      exact hk
/-- the goal may be widened -/
theorem bW.mono {sc : bm_Sc} {y pc : Nat} {ls st : List bm_V} {ι : bm_S} {Q Q' : bm_O → bm_S → Prop} (h : bW sc y pc ls st ι Q) (hQ : ∀ o ι', Q o ι' → Q' o ι') : bW sc y pc ls st ι Q' := fun a b c d => by
  obtain ⟨o, ι', h1, h2, h3, h4⟩ := h a b c d
  exact ⟨o, ι', h1, h2, h3, hQ _ _ h4⟩
theorem bC.mono {sc : bm_Sc} {y : Nat} {as : List bm_V} {ι : bm_S} {Q Q' : bm_O → bm_S → Prop} (h : bC sc y as ι Q) (hQ : ∀ o ι', Q o ι' → Q' o ι') : bC sc y as ι Q' := bW.mono h hQ
