section AmSimple
variable {D : va_G} {aC : Nat → ClassId} {xa : Nat → Nat} {uv : Nat → Value} {X : Nat → Nat → Int32} {XL : Nat → Nat} {z : Nat}
/-- what an instruction's case may use -/
def am_Hyp (D : va_G) (aC : Nat → ClassId) (xa : Nat → Nat) (uv : Nat → Value) (X : Nat → Nat → Int32) (XL : Nat → Nat) (z : Nat) (l : Launch) (n y pc : Nat) (ls st : List am_V) (σ : am_H) (r : am_O × am_H) (row : am_Row) (p : Program) (R : Room) (s : State) (m : MethodId) (args : Array Value) (meth : Method) (c : Code) (H : Heap) (locs : List Loc) (lsA : Array Slot) (f : Nat → Nat) (f0 : (Nat → Nat) × am_H) (n0 sl0 : Nat) : Prop :=
  am_Sim D aC xa uv X XL z l n ∧ y < 265 ∧ am_G y p R s m args meth c ∧ am_Cx D aC xa uv X XL z s s.heap ∧ am_Fc D aC xa uv z s f0 n0 sl0 y ls st σ H locs lsA f ∧ ah_n r.2 - n0 ≤ R.cells ∧ ah_sl r.2 - sl0 ≤ R.slots ∧ decode (am_by y) pc = .ok (row.1, row.2.1) ∧
    (∃ q, am_md[y]? = some q ∧ am_rchk q.2.2.2.1 q.2.2.1 q.2.2.2.2.1 q.2.2.2.2.2.1 (decide (q.1.name = "<init>")) q.2.2.2.2.2.2 pc row = true) ∧
    am_step am_ak X XL (am_run am_ak X XL am_code am_ml n y) (fun y2 as σ => am_run am_ak X XL am_code am_ml n y2 0 (am_ent (am_ml y2) as) [] σ) pc ls st σ (some row) = some r
variable {l : Launch} {n y pc : Nat} {ls st : List am_V} {σ : am_H} {r : am_O × am_H} {p : Program} {e : Env} {R : Room} {s : State} {m : MethodId} {args : Array Value} {below : List Frame} {meth : Method} {c : Code} {H : Heap} {locs : List Loc} {lsA : Array Slot} {f : Nat → Nat} {f0 : (Nat → Nat) × am_H} {n0 sl0 : Nat}
/-- goes on at another place with another stack -/
theorem am_go {row : am_Row} (h : am_Hyp D aC xa uv X XL z l n y pc ls st σ r row p R s m args meth c H locs lsA f f0 n0 sl0) {pc' : Nat} {st' : List am_V} (hr : am_run am_ak X XL am_code am_ml n y pc' ls st' σ = some r) (hg : am_gl σ st') :
    W p l e R s m args below meth c H locs (ah_n σ - n0) (ah_sl σ - sl0) (am_MQ below (am_Q D aC xa uv z f0 n0 r) args s (ah_n r.2 - n0) (ah_sl r.2 - sl0) (am_A z)) (F0 m pc' lsA (st'.map (am_cv xa uv f σ))) := by
  obtain ⟨ih, hy, hG, hC, hF, h1, h2, -⟩ := h
  exact ih y pc' ls st' σ r hr hy p e R s m args below meth c H locs lsA f f0 n0 sl0 hG hC (am_Fc_st D aC xa uv z hF hg) h1 h2
theorem am_s_iconst {len : Nat} {w : Int32} {a b c9 : Nat} {tb : List (Int32 × Nat)} {k9 : Int} (h : am_Hyp D aC xa uv X XL z l n y pc ls st σ r (.iconst k9, len, w, a, b, c9, tb) p R s m args meth c H locs lsA f f0 n0 sl0) : W p l e R s m args below meth c H locs (ah_n σ - n0) (ah_sl σ - sl0) (am_MQ below (am_Q D aC xa uv z f0 n0 r) args s (ah_n r.2 - n0) (ah_sl r.2 - sl0) (am_A z)) (F0 m pc lsA (st.map (am_cv xa uv f σ))) := by
  have h0 := h
  obtain ⟨ih, hy, ⟨hx, hb, hml, hlk, hts, q0, hq0, hrt, hown, hnm, hfr, hlc, htab⟩, hC, hF, hc1, hc2, hdg, ⟨q, hq, hchk⟩, hrun⟩ := h
  cases hq0.symm.trans hq
  have hgs := hF.2.2.2.2.2.1
  simp only [am_step] at hrun
  simp only [am_rchk, Bool.and_eq_true, decide_eq_true_eq] at hchk
  dsimp only at hdg
  obtain ⟨e1, e2⟩ := hchk
  cases Nat.eq_of_beq_eq_true e1
  exact lv_iconst hx hb hdg e2 (am_go h0 hrun (am_gl.c trivial hgs))

theorem am_s_bipush {len : Nat} {w : Int32} {a b c9 : Nat} {tb : List (Int32 × Nat)} {k9 : Int} (h : am_Hyp D aC xa uv X XL z l n y pc ls st σ r (.bipush k9, len, w, a, b, c9, tb) p R s m args meth c H locs lsA f f0 n0 sl0) : W p l e R s m args below meth c H locs (ah_n σ - n0) (ah_sl σ - sl0) (am_MQ below (am_Q D aC xa uv z f0 n0 r) args s (ah_n r.2 - n0) (ah_sl r.2 - sl0) (am_A z)) (F0 m pc lsA (st.map (am_cv xa uv f σ))) := by
  have h0 := h
  obtain ⟨ih, hy, ⟨hx, hb, hml, hlk, hts, q0, hq0, hrt, hown, hnm, hfr, hlc, htab⟩, hC, hF, hc1, hc2, hdg, ⟨q, hq, hchk⟩, hrun⟩ := h
  cases hq0.symm.trans hq
  have hgs := hF.2.2.2.2.2.1
  simp only [am_step] at hrun
  simp only [am_rchk, Bool.and_eq_true, decide_eq_true_eq] at hchk
  dsimp only at hdg
  obtain ⟨e1, e2⟩ := hchk
  cases Nat.eq_of_beq_eq_true e1
  exact lv_bipush hx hb hdg e2 (am_go h0 hrun (am_gl.c trivial hgs))

theorem am_s_sipush {len : Nat} {w : Int32} {a b c9 : Nat} {tb : List (Int32 × Nat)} {k9 : Int} (h : am_Hyp D aC xa uv X XL z l n y pc ls st σ r (.sipush k9, len, w, a, b, c9, tb) p R s m args meth c H locs lsA f f0 n0 sl0) : W p l e R s m args below meth c H locs (ah_n σ - n0) (ah_sl σ - sl0) (am_MQ below (am_Q D aC xa uv z f0 n0 r) args s (ah_n r.2 - n0) (ah_sl r.2 - sl0) (am_A z)) (F0 m pc lsA (st.map (am_cv xa uv f σ))) := by
  have h0 := h
  obtain ⟨ih, hy, ⟨hx, hb, hml, hlk, hts, q0, hq0, hrt, hown, hnm, hfr, hlc, htab⟩, hC, hF, hc1, hc2, hdg, ⟨q, hq, hchk⟩, hrun⟩ := h
  cases hq0.symm.trans hq
  have hgs := hF.2.2.2.2.2.1
  simp only [am_step] at hrun
  simp only [am_rchk, Bool.and_eq_true, decide_eq_true_eq] at hchk
  dsimp only at hdg
  obtain ⟨e1, e2⟩ := hchk
  cases Nat.eq_of_beq_eq_true e1
  exact lv_sipush hx hb hdg e2 (am_go h0 hrun (am_gl.c trivial hgs))

theorem am_s_ldc {len : Nat} {w : Int32} {a b c9 : Nat} {tb : List (Int32 × Nat)} {k9 : Nat} (h : am_Hyp D aC xa uv X XL z l n y pc ls st σ r (.ldc k9, len, w, a, b, c9, tb) p R s m args meth c H locs lsA f f0 n0 sl0) : W p l e R s m args below meth c H locs (ah_n σ - n0) (ah_sl σ - sl0) (am_MQ below (am_Q D aC xa uv z f0 n0 r) args s (ah_n r.2 - n0) (ah_sl r.2 - sl0) (am_A z)) (F0 m pc lsA (st.map (am_cv xa uv f σ))) := by
  have h0 := h
  obtain ⟨ih, hy, ⟨hx, hb, hml, hlk, hts, q0, hq0, hrt, hown, hnm, hfr, hlc, htab⟩, hC, hF, hc1, hc2, hdg, ⟨q, hq, hchk⟩, hrun⟩ := h
  cases hq0.symm.trans hq
  have hgs := hF.2.2.2.2.2.1
  simp only [am_step] at hrun
  simp only [am_rchk, Bool.and_eq_true, decide_eq_true_eq] at hchk
  dsimp only at hdg
  obtain ⟨e1, e2⟩ := hchk
  cases Nat.eq_of_beq_eq_true e1
  obtain ⟨⟨o', k', w', pos⟩, hq9, e3⟩ := List.any_eq_true.mp e2
  simp only [Bool.and_eq_true, decide_eq_true_eq] at e3
  obtain ⟨⟨e3, e4⟩, e5⟩ := e3
  cases Nat.eq_of_beq_eq_true e3
  cases Nat.eq_of_beq_eq_true e4
  subst e5
  have e6 := List.all_eq_true.mp am_kt_ok _ hq9
  simp only [decide_eq_true_eq] at e6
  exact lv_ldc hx hb hown (hts _ (am_T_of e6 rfl)) hdg (am_go h0 hrun (am_gl.c trivial hgs))

theorem am_s_ldc_w {len : Nat} {w : Int32} {a b c9 : Nat} {tb : List (Int32 × Nat)} {k9 : Nat} (h : am_Hyp D aC xa uv X XL z l n y pc ls st σ r (.ldc_w k9, len, w, a, b, c9, tb) p R s m args meth c H locs lsA f f0 n0 sl0) : W p l e R s m args below meth c H locs (ah_n σ - n0) (ah_sl σ - sl0) (am_MQ below (am_Q D aC xa uv z f0 n0 r) args s (ah_n r.2 - n0) (ah_sl r.2 - sl0) (am_A z)) (F0 m pc lsA (st.map (am_cv xa uv f σ))) := by
  have h0 := h
  obtain ⟨ih, hy, ⟨hx, hb, hml, hlk, hts, q0, hq0, hrt, hown, hnm, hfr, hlc, htab⟩, hC, hF, hc1, hc2, hdg, ⟨q, hq, hchk⟩, hrun⟩ := h
  cases hq0.symm.trans hq
  have hgs := hF.2.2.2.2.2.1
  simp only [am_step] at hrun
  simp only [am_rchk, Bool.and_eq_true, decide_eq_true_eq] at hchk
  dsimp only at hdg
  obtain ⟨e1, e2⟩ := hchk
  cases Nat.eq_of_beq_eq_true e1
  obtain ⟨⟨o', k', w', pos⟩, hq9, e3⟩ := List.any_eq_true.mp e2
  simp only [Bool.and_eq_true, decide_eq_true_eq] at e3
  obtain ⟨⟨e3, e4⟩, e5⟩ := e3
  cases Nat.eq_of_beq_eq_true e3
  cases Nat.eq_of_beq_eq_true e4
  subst e5
  have e6 := List.all_eq_true.mp am_kt_ok _ hq9
  simp only [decide_eq_true_eq] at e6
  exact lv_ldcw hx hb hown (hts _ (am_T_of e6 rfl)) hdg (am_go h0 hrun (am_gl.c trivial hgs))

theorem am_s_lconst {len : Nat} {w : Int32} {a b c9 : Nat} {tb : List (Int32 × Nat)} {k9 : Fin 2} (h : am_Hyp D aC xa uv X XL z l n y pc ls st σ r (.lconst k9, len, w, a, b, c9, tb) p R s m args meth c H locs lsA f f0 n0 sl0) : W p l e R s m args below meth c H locs (ah_n σ - n0) (ah_sl σ - sl0) (am_MQ below (am_Q D aC xa uv z f0 n0 r) args s (ah_n r.2 - n0) (ah_sl r.2 - sl0) (am_A z)) (F0 m pc lsA (st.map (am_cv xa uv f σ))) := by
  have h0 := h
  obtain ⟨ih, hy, ⟨hx, hb, hml, hlk, hts, q0, hq0, hrt, hown, hnm, hfr, hlc, htab⟩, hC, hF, hc1, hc2, hdg, ⟨q, hq, hchk⟩, hrun⟩ := h
  cases hq0.symm.trans hq
  have hgs := hF.2.2.2.2.2.1
  simp only [am_step] at hrun
  simp only [am_rchk, Bool.and_eq_true, decide_eq_true_eq] at hchk
  dsimp only at hdg
  obtain ⟨e1, e2⟩ := hchk
  cases Nat.eq_of_beq_eq_true e1
  exact lv_lconst hx hb hdg e2 (am_go h0 hrun (am_gl.c trivial hgs))

theorem am_s_ldc2 {len : Nat} {w : Int32} {a b c9 : Nat} {tb : List (Int32 × Nat)} {k9 : Nat} (h : am_Hyp D aC xa uv X XL z l n y pc ls st σ r (.ldc2_w k9, len, w, a, b, c9, tb) p R s m args meth c H locs lsA f f0 n0 sl0) : W p l e R s m args below meth c H locs (ah_n σ - n0) (ah_sl σ - sl0) (am_MQ below (am_Q D aC xa uv z f0 n0 r) args s (ah_n r.2 - n0) (ah_sl r.2 - sl0) (am_A z)) (F0 m pc lsA (st.map (am_cv xa uv f σ))) := by
  have h0 := h
  obtain ⟨ih, hy, ⟨hx, hb, hml, hlk, hts, q0, hq0, hrt, hown, hnm, hfr, hlc, htab⟩, hC, hF, hc1, hc2, hdg, ⟨q, hq, hchk⟩, hrun⟩ := h
  cases hq0.symm.trans hq
  have hgs := hF.2.2.2.2.2.1
  simp only [am_step] at hrun
  simp only [am_rchk, Bool.and_eq_true, decide_eq_true_eq] at hchk
  dsimp only at hdg
  obtain ⟨e1, e2⟩ := hchk
  cases Nat.eq_of_beq_eq_true e1
  obtain ⟨⟨o', k', w', pos⟩, hq9, e3⟩ := List.any_eq_true.mp e2
  simp only [Bool.and_eq_true, decide_eq_true_eq] at e3
  obtain ⟨⟨e3, e4⟩, e5⟩ := e3
  cases Nat.eq_of_beq_eq_true e3
  cases Nat.eq_of_beq_eq_true e4
  subst e5
  have e6 := List.all_eq_true.mp am_lt_ok _ hq9
  simp only [decide_eq_true_eq] at e6
  exact lv_ldc2 hx hb hown (hts _ (am_T_of e6 rfl)) hdg (am_go h0 hrun (am_gl.c trivial hgs))

theorem am_s_null {len : Nat} {w : Int32} {a b c9 : Nat} {tb : List (Int32 × Nat)} (h : am_Hyp D aC xa uv X XL z l n y pc ls st σ r (.aconst_null, len, w, a, b, c9, tb) p R s m args meth c H locs lsA f f0 n0 sl0) : W p l e R s m args below meth c H locs (ah_n σ - n0) (ah_sl σ - sl0) (am_MQ below (am_Q D aC xa uv z f0 n0 r) args s (ah_n r.2 - n0) (ah_sl r.2 - sl0) (am_A z)) (F0 m pc lsA (st.map (am_cv xa uv f σ))) := by
  have h0 := h
  obtain ⟨ih, hy, ⟨hx, hb, hml, hlk, hts, q0, hq0, hrt, hown, hnm, hfr, hlc, htab⟩, hC, hF, hc1, hc2, hdg, ⟨q, hq, hchk⟩, hrun⟩ := h
  cases hq0.symm.trans hq
  have hgs := hF.2.2.2.2.2.1
  simp only [am_step] at hrun
  simp only [am_rchk, Bool.and_eq_true, decide_eq_true_eq] at hchk
  dsimp only at hdg
  cases Nat.eq_of_beq_eq_true hchk
  exact lv_null hx hb hdg (am_go h0 hrun (am_gl.c trivial hgs))

theorem am_s_iload_n {len : Nat} {w : Int32} {a b c9 : Nat} {tb : List (Int32 × Nat)} {k9 : Fin 4} (h : am_Hyp D aC xa uv X XL z l n y pc ls st σ r (.iload_n k9, len, w, a, b, c9, tb) p R s m args meth c H locs lsA f f0 n0 sl0) : W p l e R s m args below meth c H locs (ah_n σ - n0) (ah_sl σ - sl0) (am_MQ below (am_Q D aC xa uv z f0 n0 r) args s (ah_n r.2 - n0) (ah_sl r.2 - sl0) (am_A z)) (F0 m pc lsA (st.map (am_cv xa uv f σ))) := by
  have h0 := h
  obtain ⟨ih, hy, ⟨hx, hb, hml, hlk, hts, q0, hq0, hrt, hown, hnm, hfr, hlc, htab⟩, hC, hF, hc1, hc2, hdg, ⟨q, hq, hchk⟩, hrun⟩ := h
  cases hq0.symm.trans hq
  have hgs := hF.2.2.2.2.2.1
  simp only [am_step] at hrun
  simp only [am_rchk, Bool.and_eq_true, decide_eq_true_eq] at hchk
  dsimp only at hdg
  obtain ⟨e1, e2⟩ := hchk
  cases Nat.eq_of_beq_eq_true e1
  have e2 := Nat.eq_of_beq_eq_true e2
  subst e2
  unfold am_ldi at hrun
  split at hrun
  · rename_i x hxx
    exact lv_iload_n hx hb hdg rfl (hF.2.2.1.2.2 _ _ hxx rfl) (am_go h0 hrun (am_gl.c trivial hgs))
  · cases hrun

theorem am_s_iload {len : Nat} {w : Int32} {a b c9 : Nat} {tb : List (Int32 × Nat)} {k9 : Nat} (h : am_Hyp D aC xa uv X XL z l n y pc ls st σ r (.iload k9, len, w, a, b, c9, tb) p R s m args meth c H locs lsA f f0 n0 sl0) : W p l e R s m args below meth c H locs (ah_n σ - n0) (ah_sl σ - sl0) (am_MQ below (am_Q D aC xa uv z f0 n0 r) args s (ah_n r.2 - n0) (ah_sl r.2 - sl0) (am_A z)) (F0 m pc lsA (st.map (am_cv xa uv f σ))) := by
  have h0 := h
  obtain ⟨ih, hy, ⟨hx, hb, hml, hlk, hts, q0, hq0, hrt, hown, hnm, hfr, hlc, htab⟩, hC, hF, hc1, hc2, hdg, ⟨q, hq, hchk⟩, hrun⟩ := h
  cases hq0.symm.trans hq
  have hgs := hF.2.2.2.2.2.1
  simp only [am_step] at hrun
  simp only [am_rchk, Bool.and_eq_true, decide_eq_true_eq] at hchk
  dsimp only at hdg
  obtain ⟨e1, e2⟩ := hchk
  cases Nat.eq_of_beq_eq_true e1
  have e2 := Nat.eq_of_beq_eq_true e2
  subst e2
  unfold am_ldi at hrun
  split at hrun
  · rename_i x hxx
    exact lv_iload hx hb hdg (hF.2.2.1.2.2 _ _ hxx rfl) (am_go h0 hrun (am_gl.c trivial hgs))
  · cases hrun

theorem am_s_aload_n {len : Nat} {w : Int32} {a b c9 : Nat} {tb : List (Int32 × Nat)} {k9 : Fin 4} (h : am_Hyp D aC xa uv X XL z l n y pc ls st σ r (.aload_n k9, len, w, a, b, c9, tb) p R s m args meth c H locs lsA f f0 n0 sl0) : W p l e R s m args below meth c H locs (ah_n σ - n0) (ah_sl σ - sl0) (am_MQ below (am_Q D aC xa uv z f0 n0 r) args s (ah_n r.2 - n0) (ah_sl r.2 - sl0) (am_A z)) (F0 m pc lsA (st.map (am_cv xa uv f σ))) := by
  have h0 := h
  obtain ⟨ih, hy, ⟨hx, hb, hml, hlk, hts, q0, hq0, hrt, hown, hnm, hfr, hlc, htab⟩, hC, hF, hc1, hc2, hdg, ⟨q, hq, hchk⟩, hrun⟩ := h
  cases hq0.symm.trans hq
  have hgs := hF.2.2.2.2.2.1
  simp only [am_step] at hrun
  simp only [am_rchk, Bool.and_eq_true, decide_eq_true_eq] at hchk
  dsimp only at hdg
  obtain ⟨e1, e2⟩ := hchk
  cases Nat.eq_of_beq_eq_true e1
  have e2 := Nat.eq_of_beq_eq_true e2
  subst e2
  unfold am_lda at hrun
  split at hrun
  · rename_i x hxx
    have hgo := am_go (e := e) (below := below) h0 hrun (am_gl.c (am_gl.at hF.2.2.2.2.1 hxx) hgs)
    have hl9 := hF.2.2.1.2.2 _ _ hxx rfl
    simp only [List.map_cons] at hgo
    revert hgo hl9
    rcases x with _ | qq
    · intro hl9 hgo
      exact lv_aload_nN hx hb hdg rfl hl9 hgo
    · show (_ = some (Slot.val (am_rv xa uv f σ qq))) → W _ _ _ _ _ _ _ _ _ _ _ _ _ _ _ (F0 m _ lsA (am_rv xa uv f σ qq :: _)) → _
      unfold am_rv
      cases Nat.blt qq.1 200
      · cases Nat.blt qq.1 220
        · simp only [cond_false]
          rcases hC.2.2.2.2.1 qq.1 with e9 | ⟨b9, e9⟩ <;> rw [e9]
          · intro hl9 hgo
            exact lv_aload_nN hx hb hdg rfl hl9 hgo
          · intro hl9 hgo
            exact lv_aload_n hx hb hdg rfl hl9 hgo
        · intro hl9 hgo
          exact lv_aload_n hx hb hdg rfl hl9 hgo
      · intro hl9 hgo
        exact lv_aload_n hx hb hdg rfl hl9 hgo
  · cases hrun

theorem am_s_aload {len : Nat} {w : Int32} {a b c9 : Nat} {tb : List (Int32 × Nat)} {k9 : Nat} (h : am_Hyp D aC xa uv X XL z l n y pc ls st σ r (.aload k9, len, w, a, b, c9, tb) p R s m args meth c H locs lsA f f0 n0 sl0) : W p l e R s m args below meth c H locs (ah_n σ - n0) (ah_sl σ - sl0) (am_MQ below (am_Q D aC xa uv z f0 n0 r) args s (ah_n r.2 - n0) (ah_sl r.2 - sl0) (am_A z)) (F0 m pc lsA (st.map (am_cv xa uv f σ))) := by
  have h0 := h
  obtain ⟨ih, hy, ⟨hx, hb, hml, hlk, hts, q0, hq0, hrt, hown, hnm, hfr, hlc, htab⟩, hC, hF, hc1, hc2, hdg, ⟨q, hq, hchk⟩, hrun⟩ := h
  cases hq0.symm.trans hq
  have hgs := hF.2.2.2.2.2.1
  simp only [am_step] at hrun
  simp only [am_rchk, Bool.and_eq_true, decide_eq_true_eq] at hchk
  dsimp only at hdg
  obtain ⟨e1, e2⟩ := hchk
  cases Nat.eq_of_beq_eq_true e1
  have e2 := Nat.eq_of_beq_eq_true e2
  subst e2
  unfold am_lda at hrun
  split at hrun
  · rename_i x hxx
    have hgo := am_go (e := e) (below := below) h0 hrun (am_gl.c (am_gl.at hF.2.2.2.2.1 hxx) hgs)
    have hl9 := hF.2.2.1.2.2 _ _ hxx rfl
    simp only [List.map_cons] at hgo
    revert hgo hl9
    rcases x with _ | qq
    · intro hl9 hgo
      exact lv_aloadN hx hb hdg hl9 hgo
    · show (_ = some (Slot.val (am_rv xa uv f σ qq))) → W _ _ _ _ _ _ _ _ _ _ _ _ _ _ _ (F0 m _ lsA (am_rv xa uv f σ qq :: _)) → _
      unfold am_rv
      cases Nat.blt qq.1 200
      · cases Nat.blt qq.1 220
        · simp only [cond_false]
          rcases hC.2.2.2.2.1 qq.1 with e9 | ⟨b9, e9⟩ <;> rw [e9]
          · intro hl9 hgo
            exact lv_aloadN hx hb hdg hl9 hgo
          · intro hl9 hgo
            exact lv_aload hx hb hdg hl9 hgo
        · intro hl9 hgo
          exact lv_aload hx hb hdg hl9 hgo
      · intro hl9 hgo
        exact lv_aload hx hb hdg hl9 hgo
  · cases hrun

theorem am_s_iadd {len : Nat} {w : Int32} {a b c9 : Nat} {tb : List (Int32 × Nat)} (h : am_Hyp D aC xa uv X XL z l n y pc ls st σ r (.iadd, len, w, a, b, c9, tb) p R s m args meth c H locs lsA f f0 n0 sl0) : W p l e R s m args below meth c H locs (ah_n σ - n0) (ah_sl σ - sl0) (am_MQ below (am_Q D aC xa uv z f0 n0 r) args s (ah_n r.2 - n0) (ah_sl r.2 - sl0) (am_A z)) (F0 m pc lsA (st.map (am_cv xa uv f σ))) := by
  have h0 := h
  obtain ⟨ih, hy, ⟨hx, hb, hml, hlk, hts, q0, hq0, hrt, hown, hnm, hfr, hlc, htab⟩, hC, hF, hc1, hc2, hdg, ⟨q, hq, hchk⟩, hrun⟩ := h
  cases hq0.symm.trans hq
  have hgs := hF.2.2.2.2.2.1
  simp only [am_step] at hrun
  simp only [am_rchk, Bool.and_eq_true, decide_eq_true_eq] at hchk
  dsimp only at hdg
  cases Nat.eq_of_beq_eq_true hchk
  unfold am_bin at hrun
  split at hrun
  · exact lv_iadd hx hb hdg (am_go h0 hrun (am_gl.c trivial hgs.t.t))
  · cases hrun

theorem am_s_isub {len : Nat} {w : Int32} {a b c9 : Nat} {tb : List (Int32 × Nat)} (h : am_Hyp D aC xa uv X XL z l n y pc ls st σ r (.isub, len, w, a, b, c9, tb) p R s m args meth c H locs lsA f f0 n0 sl0) : W p l e R s m args below meth c H locs (ah_n σ - n0) (ah_sl σ - sl0) (am_MQ below (am_Q D aC xa uv z f0 n0 r) args s (ah_n r.2 - n0) (ah_sl r.2 - sl0) (am_A z)) (F0 m pc lsA (st.map (am_cv xa uv f σ))) := by
  have h0 := h
  obtain ⟨ih, hy, ⟨hx, hb, hml, hlk, hts, q0, hq0, hrt, hown, hnm, hfr, hlc, htab⟩, hC, hF, hc1, hc2, hdg, ⟨q, hq, hchk⟩, hrun⟩ := h
  cases hq0.symm.trans hq
  have hgs := hF.2.2.2.2.2.1
  simp only [am_step] at hrun
  simp only [am_rchk, Bool.and_eq_true, decide_eq_true_eq] at hchk
  dsimp only at hdg
  cases Nat.eq_of_beq_eq_true hchk
  unfold am_bin at hrun
  split at hrun
  · exact lv_isub hx hb hdg (am_go h0 hrun (am_gl.c trivial hgs.t.t))
  · cases hrun

theorem am_s_imul {len : Nat} {w : Int32} {a b c9 : Nat} {tb : List (Int32 × Nat)} (h : am_Hyp D aC xa uv X XL z l n y pc ls st σ r (.imul, len, w, a, b, c9, tb) p R s m args meth c H locs lsA f f0 n0 sl0) : W p l e R s m args below meth c H locs (ah_n σ - n0) (ah_sl σ - sl0) (am_MQ below (am_Q D aC xa uv z f0 n0 r) args s (ah_n r.2 - n0) (ah_sl r.2 - sl0) (am_A z)) (F0 m pc lsA (st.map (am_cv xa uv f σ))) := by
  have h0 := h
  obtain ⟨ih, hy, ⟨hx, hb, hml, hlk, hts, q0, hq0, hrt, hown, hnm, hfr, hlc, htab⟩, hC, hF, hc1, hc2, hdg, ⟨q, hq, hchk⟩, hrun⟩ := h
  cases hq0.symm.trans hq
  have hgs := hF.2.2.2.2.2.1
  simp only [am_step] at hrun
  simp only [am_rchk, Bool.and_eq_true, decide_eq_true_eq] at hchk
  dsimp only at hdg
  cases Nat.eq_of_beq_eq_true hchk
  unfold am_bin at hrun
  split at hrun
  · exact lv_imul hx hb hdg (am_go h0 hrun (am_gl.c trivial hgs.t.t))
  · cases hrun

theorem am_s_iand {len : Nat} {w : Int32} {a b c9 : Nat} {tb : List (Int32 × Nat)} (h : am_Hyp D aC xa uv X XL z l n y pc ls st σ r (.iand, len, w, a, b, c9, tb) p R s m args meth c H locs lsA f f0 n0 sl0) : W p l e R s m args below meth c H locs (ah_n σ - n0) (ah_sl σ - sl0) (am_MQ below (am_Q D aC xa uv z f0 n0 r) args s (ah_n r.2 - n0) (ah_sl r.2 - sl0) (am_A z)) (F0 m pc lsA (st.map (am_cv xa uv f σ))) := by
  have h0 := h
  obtain ⟨ih, hy, ⟨hx, hb, hml, hlk, hts, q0, hq0, hrt, hown, hnm, hfr, hlc, htab⟩, hC, hF, hc1, hc2, hdg, ⟨q, hq, hchk⟩, hrun⟩ := h
  cases hq0.symm.trans hq
  have hgs := hF.2.2.2.2.2.1
  simp only [am_step] at hrun
  simp only [am_rchk, Bool.and_eq_true, decide_eq_true_eq] at hchk
  dsimp only at hdg
  cases Nat.eq_of_beq_eq_true hchk
  unfold am_bin at hrun
  split at hrun
  · exact lv_iand hx hb hdg (am_go h0 hrun (am_gl.c trivial hgs.t.t))
  · cases hrun

theorem am_s_ior {len : Nat} {w : Int32} {a b c9 : Nat} {tb : List (Int32 × Nat)} (h : am_Hyp D aC xa uv X XL z l n y pc ls st σ r (.ior, len, w, a, b, c9, tb) p R s m args meth c H locs lsA f f0 n0 sl0) : W p l e R s m args below meth c H locs (ah_n σ - n0) (ah_sl σ - sl0) (am_MQ below (am_Q D aC xa uv z f0 n0 r) args s (ah_n r.2 - n0) (ah_sl r.2 - sl0) (am_A z)) (F0 m pc lsA (st.map (am_cv xa uv f σ))) := by
  have h0 := h
  obtain ⟨ih, hy, ⟨hx, hb, hml, hlk, hts, q0, hq0, hrt, hown, hnm, hfr, hlc, htab⟩, hC, hF, hc1, hc2, hdg, ⟨q, hq, hchk⟩, hrun⟩ := h
  cases hq0.symm.trans hq
  have hgs := hF.2.2.2.2.2.1
  simp only [am_step] at hrun
  simp only [am_rchk, Bool.and_eq_true, decide_eq_true_eq] at hchk
  dsimp only at hdg
  cases Nat.eq_of_beq_eq_true hchk
  unfold am_bin at hrun
  split at hrun
  · exact lv_ior hx hb hdg (am_go h0 hrun (am_gl.c trivial hgs.t.t))
  · cases hrun

theorem am_s_ixor {len : Nat} {w : Int32} {a b c9 : Nat} {tb : List (Int32 × Nat)} (h : am_Hyp D aC xa uv X XL z l n y pc ls st σ r (.ixor, len, w, a, b, c9, tb) p R s m args meth c H locs lsA f f0 n0 sl0) : W p l e R s m args below meth c H locs (ah_n σ - n0) (ah_sl σ - sl0) (am_MQ below (am_Q D aC xa uv z f0 n0 r) args s (ah_n r.2 - n0) (ah_sl r.2 - sl0) (am_A z)) (F0 m pc lsA (st.map (am_cv xa uv f σ))) := by
  have h0 := h
  obtain ⟨ih, hy, ⟨hx, hb, hml, hlk, hts, q0, hq0, hrt, hown, hnm, hfr, hlc, htab⟩, hC, hF, hc1, hc2, hdg, ⟨q, hq, hchk⟩, hrun⟩ := h
  cases hq0.symm.trans hq
  have hgs := hF.2.2.2.2.2.1
  simp only [am_step] at hrun
  simp only [am_rchk, Bool.and_eq_true, decide_eq_true_eq] at hchk
  dsimp only at hdg
  cases Nat.eq_of_beq_eq_true hchk
  unfold am_bin at hrun
  split at hrun
  · exact lv_ixor hx hb hdg (am_go h0 hrun (am_gl.c trivial hgs.t.t))
  · cases hrun

theorem am_s_ishl {len : Nat} {w : Int32} {a b c9 : Nat} {tb : List (Int32 × Nat)} (h : am_Hyp D aC xa uv X XL z l n y pc ls st σ r (.ishl, len, w, a, b, c9, tb) p R s m args meth c H locs lsA f f0 n0 sl0) : W p l e R s m args below meth c H locs (ah_n σ - n0) (ah_sl σ - sl0) (am_MQ below (am_Q D aC xa uv z f0 n0 r) args s (ah_n r.2 - n0) (ah_sl r.2 - sl0) (am_A z)) (F0 m pc lsA (st.map (am_cv xa uv f σ))) := by
  have h0 := h
  obtain ⟨ih, hy, ⟨hx, hb, hml, hlk, hts, q0, hq0, hrt, hown, hnm, hfr, hlc, htab⟩, hC, hF, hc1, hc2, hdg, ⟨q, hq, hchk⟩, hrun⟩ := h
  cases hq0.symm.trans hq
  have hgs := hF.2.2.2.2.2.1
  simp only [am_step] at hrun
  simp only [am_rchk, Bool.and_eq_true, decide_eq_true_eq] at hchk
  dsimp only at hdg
  cases Nat.eq_of_beq_eq_true hchk
  unfold am_bin at hrun
  split at hrun
  · exact lv_ishl hx hb hdg (am_go h0 hrun (am_gl.c trivial hgs.t.t))
  · cases hrun

theorem am_s_ishr {len : Nat} {w : Int32} {a b c9 : Nat} {tb : List (Int32 × Nat)} (h : am_Hyp D aC xa uv X XL z l n y pc ls st σ r (.ishr, len, w, a, b, c9, tb) p R s m args meth c H locs lsA f f0 n0 sl0) : W p l e R s m args below meth c H locs (ah_n σ - n0) (ah_sl σ - sl0) (am_MQ below (am_Q D aC xa uv z f0 n0 r) args s (ah_n r.2 - n0) (ah_sl r.2 - sl0) (am_A z)) (F0 m pc lsA (st.map (am_cv xa uv f σ))) := by
  have h0 := h
  obtain ⟨ih, hy, ⟨hx, hb, hml, hlk, hts, q0, hq0, hrt, hown, hnm, hfr, hlc, htab⟩, hC, hF, hc1, hc2, hdg, ⟨q, hq, hchk⟩, hrun⟩ := h
  cases hq0.symm.trans hq
  have hgs := hF.2.2.2.2.2.1
  simp only [am_step] at hrun
  simp only [am_rchk, Bool.and_eq_true, decide_eq_true_eq] at hchk
  dsimp only at hdg
  cases Nat.eq_of_beq_eq_true hchk
  unfold am_bin at hrun
  split at hrun
  · exact lv_ishr hx hb hdg (am_go h0 hrun (am_gl.c trivial hgs.t.t))
  · cases hrun

theorem am_s_iushr {len : Nat} {w : Int32} {a b c9 : Nat} {tb : List (Int32 × Nat)} (h : am_Hyp D aC xa uv X XL z l n y pc ls st σ r (.iushr, len, w, a, b, c9, tb) p R s m args meth c H locs lsA f f0 n0 sl0) : W p l e R s m args below meth c H locs (ah_n σ - n0) (ah_sl σ - sl0) (am_MQ below (am_Q D aC xa uv z f0 n0 r) args s (ah_n r.2 - n0) (ah_sl r.2 - sl0) (am_A z)) (F0 m pc lsA (st.map (am_cv xa uv f σ))) := by
  have h0 := h
  obtain ⟨ih, hy, ⟨hx, hb, hml, hlk, hts, q0, hq0, hrt, hown, hnm, hfr, hlc, htab⟩, hC, hF, hc1, hc2, hdg, ⟨q, hq, hchk⟩, hrun⟩ := h
  cases hq0.symm.trans hq
  have hgs := hF.2.2.2.2.2.1
  simp only [am_step] at hrun
  simp only [am_rchk, Bool.and_eq_true, decide_eq_true_eq] at hchk
  dsimp only at hdg
  cases Nat.eq_of_beq_eq_true hchk
  unfold am_bin at hrun
  split at hrun
  · exact lv_iushr hx hb hdg rfl (am_go h0 hrun (am_gl.c trivial hgs.t.t))
  · cases hrun

theorem am_s_idiv {len : Nat} {w : Int32} {a b c9 : Nat} {tb : List (Int32 × Nat)} (h : am_Hyp D aC xa uv X XL z l n y pc ls st σ r (.idiv, len, w, a, b, c9, tb) p R s m args meth c H locs lsA f f0 n0 sl0) : W p l e R s m args below meth c H locs (ah_n σ - n0) (ah_sl σ - sl0) (am_MQ below (am_Q D aC xa uv z f0 n0 r) args s (ah_n r.2 - n0) (ah_sl r.2 - sl0) (am_A z)) (F0 m pc lsA (st.map (am_cv xa uv f σ))) := by
  have h0 := h
  obtain ⟨ih, hy, ⟨hx, hb, hml, hlk, hts, q0, hq0, hrt, hown, hnm, hfr, hlc, htab⟩, hC, hF, hc1, hc2, hdg, ⟨q, hq, hchk⟩, hrun⟩ := h
  cases hq0.symm.trans hq
  have hgs := hF.2.2.2.2.2.1
  simp only [am_step] at hrun
  simp only [am_rchk, Bool.and_eq_true, decide_eq_true_eq] at hchk
  dsimp only at hdg
  cases Nat.eq_of_beq_eq_true hchk
  split at hrun
  · split at hrun
    · cases hrun
    · rename_i hne
      exact lv_idiv hx hb hdg hne (am_go h0 hrun (am_gl.c trivial hgs.t.t))
  · cases hrun

theorem am_s_irem {len : Nat} {w : Int32} {a b c9 : Nat} {tb : List (Int32 × Nat)} (h : am_Hyp D aC xa uv X XL z l n y pc ls st σ r (.irem, len, w, a, b, c9, tb) p R s m args meth c H locs lsA f f0 n0 sl0) : W p l e R s m args below meth c H locs (ah_n σ - n0) (ah_sl σ - sl0) (am_MQ below (am_Q D aC xa uv z f0 n0 r) args s (ah_n r.2 - n0) (ah_sl r.2 - sl0) (am_A z)) (F0 m pc lsA (st.map (am_cv xa uv f σ))) := by
  have h0 := h
  obtain ⟨ih, hy, ⟨hx, hb, hml, hlk, hts, q0, hq0, hrt, hown, hnm, hfr, hlc, htab⟩, hC, hF, hc1, hc2, hdg, ⟨q, hq, hchk⟩, hrun⟩ := h
  cases hq0.symm.trans hq
  have hgs := hF.2.2.2.2.2.1
  simp only [am_step] at hrun
  simp only [am_rchk, Bool.and_eq_true, decide_eq_true_eq] at hchk
  dsimp only at hdg
  cases Nat.eq_of_beq_eq_true hchk
  split at hrun
  · split at hrun
    · cases hrun
    · rename_i hne
      exact lv_irem hx hb hdg hne (am_go h0 hrun (am_gl.c trivial hgs.t.t))
  · cases hrun

theorem am_s_ineg {len : Nat} {w : Int32} {a b c9 : Nat} {tb : List (Int32 × Nat)} (h : am_Hyp D aC xa uv X XL z l n y pc ls st σ r (.ineg, len, w, a, b, c9, tb) p R s m args meth c H locs lsA f f0 n0 sl0) : W p l e R s m args below meth c H locs (ah_n σ - n0) (ah_sl σ - sl0) (am_MQ below (am_Q D aC xa uv z f0 n0 r) args s (ah_n r.2 - n0) (ah_sl r.2 - sl0) (am_A z)) (F0 m pc lsA (st.map (am_cv xa uv f σ))) := by
  have h0 := h
  obtain ⟨ih, hy, ⟨hx, hb, hml, hlk, hts, q0, hq0, hrt, hown, hnm, hfr, hlc, htab⟩, hC, hF, hc1, hc2, hdg, ⟨q, hq, hchk⟩, hrun⟩ := h
  cases hq0.symm.trans hq
  have hgs := hF.2.2.2.2.2.1
  simp only [am_step] at hrun
  simp only [am_rchk, Bool.and_eq_true, decide_eq_true_eq] at hchk
  dsimp only at hdg
  cases Nat.eq_of_beq_eq_true hchk
  split at hrun
  · exact lv_ineg hx hb hdg (am_go h0 hrun (am_gl.c trivial hgs.t))
  · cases hrun

theorem am_s_i2l {len : Nat} {w : Int32} {a b c9 : Nat} {tb : List (Int32 × Nat)} (h : am_Hyp D aC xa uv X XL z l n y pc ls st σ r (.i2l, len, w, a, b, c9, tb) p R s m args meth c H locs lsA f f0 n0 sl0) : W p l e R s m args below meth c H locs (ah_n σ - n0) (ah_sl σ - sl0) (am_MQ below (am_Q D aC xa uv z f0 n0 r) args s (ah_n r.2 - n0) (ah_sl r.2 - sl0) (am_A z)) (F0 m pc lsA (st.map (am_cv xa uv f σ))) := by
  have h0 := h
  obtain ⟨ih, hy, ⟨hx, hb, hml, hlk, hts, q0, hq0, hrt, hown, hnm, hfr, hlc, htab⟩, hC, hF, hc1, hc2, hdg, ⟨q, hq, hchk⟩, hrun⟩ := h
  cases hq0.symm.trans hq
  have hgs := hF.2.2.2.2.2.1
  simp only [am_step] at hrun
  simp only [am_rchk, Bool.and_eq_true, decide_eq_true_eq] at hchk
  dsimp only at hdg
  cases Nat.eq_of_beq_eq_true hchk
  split at hrun
  · exact lv_i2l hx hb hdg rfl (am_go h0 hrun (am_gl.c trivial hgs.t))
  · cases hrun

theorem am_s_i2b {len : Nat} {w : Int32} {a b c9 : Nat} {tb : List (Int32 × Nat)} (h : am_Hyp D aC xa uv X XL z l n y pc ls st σ r (.i2b, len, w, a, b, c9, tb) p R s m args meth c H locs lsA f f0 n0 sl0) : W p l e R s m args below meth c H locs (ah_n σ - n0) (ah_sl σ - sl0) (am_MQ below (am_Q D aC xa uv z f0 n0 r) args s (ah_n r.2 - n0) (ah_sl r.2 - sl0) (am_A z)) (F0 m pc lsA (st.map (am_cv xa uv f σ))) := by
  have h0 := h
  obtain ⟨ih, hy, ⟨hx, hb, hml, hlk, hts, q0, hq0, hrt, hown, hnm, hfr, hlc, htab⟩, hC, hF, hc1, hc2, hdg, ⟨q, hq, hchk⟩, hrun⟩ := h
  cases hq0.symm.trans hq
  have hgs := hF.2.2.2.2.2.1
  simp only [am_step] at hrun
  simp only [am_rchk, Bool.and_eq_true, decide_eq_true_eq] at hchk
  dsimp only at hdg
  cases Nat.eq_of_beq_eq_true hchk
  split at hrun
  · exact lv_i2b hx hb hdg rfl (am_go h0 hrun (am_gl.c trivial hgs.t))
  · cases hrun

theorem am_s_dup {len : Nat} {w : Int32} {a b c9 : Nat} {tb : List (Int32 × Nat)} (h : am_Hyp D aC xa uv X XL z l n y pc ls st σ r (.dup, len, w, a, b, c9, tb) p R s m args meth c H locs lsA f f0 n0 sl0) : W p l e R s m args below meth c H locs (ah_n σ - n0) (ah_sl σ - sl0) (am_MQ below (am_Q D aC xa uv z f0 n0 r) args s (ah_n r.2 - n0) (ah_sl r.2 - sl0) (am_A z)) (F0 m pc lsA (st.map (am_cv xa uv f σ))) := by
  have h0 := h
  obtain ⟨ih, hy, ⟨hx, hb, hml, hlk, hts, q0, hq0, hrt, hown, hnm, hfr, hlc, htab⟩, hC, hF, hc1, hc2, hdg, ⟨q, hq, hchk⟩, hrun⟩ := h
  cases hq0.symm.trans hq
  have hgs := hF.2.2.2.2.2.1
  simp only [am_step] at hrun
  simp only [am_rchk, Bool.and_eq_true, decide_eq_true_eq] at hchk
  dsimp only at hdg
  cases Nat.eq_of_beq_eq_true hchk
  split at hrun
  · exact lv_dup hx hb hdg rfl (am_go h0 hrun (am_gl.c trivial hgs))
  · exact lv_dup hx hb hdg (am_cat1 xa uv hC.2.2.2.2.1 rfl) (am_go h0 hrun (am_gl.c hgs.h hgs))
  · cases hrun

theorem am_s_dup2 {len : Nat} {w : Int32} {a b c9 : Nat} {tb : List (Int32 × Nat)} (h : am_Hyp D aC xa uv X XL z l n y pc ls st σ r (.dup2, len, w, a, b, c9, tb) p R s m args meth c H locs lsA f f0 n0 sl0) : W p l e R s m args below meth c H locs (ah_n σ - n0) (ah_sl σ - sl0) (am_MQ below (am_Q D aC xa uv z f0 n0 r) args s (ah_n r.2 - n0) (ah_sl r.2 - sl0) (am_A z)) (F0 m pc lsA (st.map (am_cv xa uv f σ))) := by
  have h0 := h
  obtain ⟨ih, hy, ⟨hx, hb, hml, hlk, hts, q0, hq0, hrt, hown, hnm, hfr, hlc, htab⟩, hC, hF, hc1, hc2, hdg, ⟨q, hq, hchk⟩, hrun⟩ := h
  cases hq0.symm.trans hq
  have hgs := hF.2.2.2.2.2.1
  simp only [am_step] at hrun
  simp only [am_rchk, Bool.and_eq_true, decide_eq_true_eq] at hchk
  dsimp only at hdg
  cases Nat.eq_of_beq_eq_true hchk
  split at hrun
  · exact lv_dup2_11 hx hb hdg rfl (am_cat1 xa uv hC.2.2.2.2.1 rfl) (am_go h0 hrun (am_gl.c trivial (am_gl.c hgs.t.h hgs)))
  · cases hrun

theorem am_s_dup_x1 {len : Nat} {w : Int32} {a b c9 : Nat} {tb : List (Int32 × Nat)} (h : am_Hyp D aC xa uv X XL z l n y pc ls st σ r (.dup_x1, len, w, a, b, c9, tb) p R s m args meth c H locs lsA f f0 n0 sl0) : W p l e R s m args below meth c H locs (ah_n σ - n0) (ah_sl σ - sl0) (am_MQ below (am_Q D aC xa uv z f0 n0 r) args s (ah_n r.2 - n0) (ah_sl r.2 - sl0) (am_A z)) (F0 m pc lsA (st.map (am_cv xa uv f σ))) := by
  have h0 := h
  obtain ⟨ih, hy, ⟨hx, hb, hml, hlk, hts, q0, hq0, hrt, hown, hnm, hfr, hlc, htab⟩, hC, hF, hc1, hc2, hdg, ⟨q, hq, hchk⟩, hrun⟩ := h
  cases hq0.symm.trans hq
  have hgs := hF.2.2.2.2.2.1
  simp only [am_step] at hrun
  simp only [am_rchk, Bool.and_eq_true, decide_eq_true_eq] at hchk
  dsimp only at hdg
  cases Nat.eq_of_beq_eq_true hchk
  split at hrun
  · exact lv_dup_x1 hx hb hdg rfl (am_cat1 xa uv hC.2.2.2.2.1 rfl) (am_go h0 hrun (am_gl.c trivial (am_gl.c hgs.t.h (am_gl.c trivial hgs.t.t))))
  · cases hrun

theorem am_s_goto {len : Nat} {w : Int32} {a b c9 : Nat} {tb : List (Int32 × Nat)} {k9 : Int} (h : am_Hyp D aC xa uv X XL z l n y pc ls st σ r (.goto k9, len, w, a, b, c9, tb) p R s m args meth c H locs lsA f f0 n0 sl0) : W p l e R s m args below meth c H locs (ah_n σ - n0) (ah_sl σ - sl0) (am_MQ below (am_Q D aC xa uv z f0 n0 r) args s (ah_n r.2 - n0) (ah_sl r.2 - sl0) (am_A z)) (F0 m pc lsA (st.map (am_cv xa uv f σ))) := by
  have h0 := h
  obtain ⟨ih, hy, ⟨hx, hb, hml, hlk, hts, q0, hq0, hrt, hown, hnm, hfr, hlc, htab⟩, hC, hF, hc1, hc2, hdg, ⟨q, hq, hchk⟩, hrun⟩ := h
  cases hq0.symm.trans hq
  have hgs := hF.2.2.2.2.2.1
  simp only [am_step] at hrun
  simp only [am_rchk, Bool.and_eq_true, decide_eq_true_eq] at hchk
  dsimp only at hdg
  obtain ⟨e1, e2⟩ := hchk
  cases Nat.eq_of_beq_eq_true e1
  exact lv_goto hx hb hdg e2 (am_go h0 hrun hgs)

theorem am_s_icmp_eq {len : Nat} {w : Int32} {a b c9 : Nat} {tb : List (Int32 × Nat)} {k9 : Int} (h : am_Hyp D aC xa uv X XL z l n y pc ls st σ r (.if_icmp .eq k9, len, w, a, b, c9, tb) p R s m args meth c H locs lsA f f0 n0 sl0) : W p l e R s m args below meth c H locs (ah_n σ - n0) (ah_sl σ - sl0) (am_MQ below (am_Q D aC xa uv z f0 n0 r) args s (ah_n r.2 - n0) (ah_sl r.2 - sl0) (am_A z)) (F0 m pc lsA (st.map (am_cv xa uv f σ))) := by
  have h0 := h
  obtain ⟨ih, hy, ⟨hx, hb, hml, hlk, hts, q0, hq0, hrt, hown, hnm, hfr, hlc, htab⟩, hC, hF, hc1, hc2, hdg, ⟨q, hq, hchk⟩, hrun⟩ := h
  cases hq0.symm.trans hq
  have hgs := hF.2.2.2.2.2.1
  simp only [am_step] at hrun
  simp only [am_rchk, Bool.and_eq_true, decide_eq_true_eq] at hchk
  dsimp only at hdg
  obtain ⟨e1, e2⟩ := hchk
  cases Nat.eq_of_beq_eq_true e1
  unfold am_cmp2 at hrun
  split at hrun
  · dsimp only at hrun
    refine lv_icmp_eq hx hb hdg e2 (fun hc => ?_) (fun hc => ?_)
    · rw [if_pos hc] at hrun
      exact am_go h0 hrun hgs.t.t
    · rw [if_neg hc] at hrun
      exact am_go h0 hrun hgs.t.t
  · cases hrun

theorem am_s_if_eq {len : Nat} {w : Int32} {a b c9 : Nat} {tb : List (Int32 × Nat)} {k9 : Int} (h : am_Hyp D aC xa uv X XL z l n y pc ls st σ r (.ifCond .eq k9, len, w, a, b, c9, tb) p R s m args meth c H locs lsA f f0 n0 sl0) : W p l e R s m args below meth c H locs (ah_n σ - n0) (ah_sl σ - sl0) (am_MQ below (am_Q D aC xa uv z f0 n0 r) args s (ah_n r.2 - n0) (ah_sl r.2 - sl0) (am_A z)) (F0 m pc lsA (st.map (am_cv xa uv f σ))) := by
  have h0 := h
  obtain ⟨ih, hy, ⟨hx, hb, hml, hlk, hts, q0, hq0, hrt, hown, hnm, hfr, hlc, htab⟩, hC, hF, hc1, hc2, hdg, ⟨q, hq, hchk⟩, hrun⟩ := h
  cases hq0.symm.trans hq
  have hgs := hF.2.2.2.2.2.1
  simp only [am_step] at hrun
  simp only [am_rchk, Bool.and_eq_true, decide_eq_true_eq] at hchk
  dsimp only at hdg
  obtain ⟨e1, e2⟩ := hchk
  cases Nat.eq_of_beq_eq_true e1
  unfold am_cmp1 at hrun
  split at hrun
  · dsimp only at hrun
    refine lv_if_eq hx hb hdg e2 (fun hc => ?_) (fun hc => ?_)
    · rw [if_pos hc] at hrun
      exact am_go h0 hrun hgs.t
    · rw [if_neg hc] at hrun
      exact am_go h0 hrun hgs.t
  · cases hrun

theorem am_s_icmp_ne {len : Nat} {w : Int32} {a b c9 : Nat} {tb : List (Int32 × Nat)} {k9 : Int} (h : am_Hyp D aC xa uv X XL z l n y pc ls st σ r (.if_icmp .ne k9, len, w, a, b, c9, tb) p R s m args meth c H locs lsA f f0 n0 sl0) : W p l e R s m args below meth c H locs (ah_n σ - n0) (ah_sl σ - sl0) (am_MQ below (am_Q D aC xa uv z f0 n0 r) args s (ah_n r.2 - n0) (ah_sl r.2 - sl0) (am_A z)) (F0 m pc lsA (st.map (am_cv xa uv f σ))) := by
  have h0 := h
  obtain ⟨ih, hy, ⟨hx, hb, hml, hlk, hts, q0, hq0, hrt, hown, hnm, hfr, hlc, htab⟩, hC, hF, hc1, hc2, hdg, ⟨q, hq, hchk⟩, hrun⟩ := h
  cases hq0.symm.trans hq
  have hgs := hF.2.2.2.2.2.1
  simp only [am_step] at hrun
  simp only [am_rchk, Bool.and_eq_true, decide_eq_true_eq] at hchk
  dsimp only at hdg
  obtain ⟨e1, e2⟩ := hchk
  cases Nat.eq_of_beq_eq_true e1
  unfold am_cmp2 at hrun
  split at hrun
  · dsimp only at hrun
    refine lv_icmp_ne hx hb hdg e2 (fun hc => ?_) (fun hc => ?_)
    · rw [if_neg hc] at hrun
      exact am_go h0 hrun hgs.t.t
    · rw [if_pos hc] at hrun
      exact am_go h0 hrun hgs.t.t
  · cases hrun

theorem am_s_if_ne {len : Nat} {w : Int32} {a b c9 : Nat} {tb : List (Int32 × Nat)} {k9 : Int} (h : am_Hyp D aC xa uv X XL z l n y pc ls st σ r (.ifCond .ne k9, len, w, a, b, c9, tb) p R s m args meth c H locs lsA f f0 n0 sl0) : W p l e R s m args below meth c H locs (ah_n σ - n0) (ah_sl σ - sl0) (am_MQ below (am_Q D aC xa uv z f0 n0 r) args s (ah_n r.2 - n0) (ah_sl r.2 - sl0) (am_A z)) (F0 m pc lsA (st.map (am_cv xa uv f σ))) := by
  have h0 := h
  obtain ⟨ih, hy, ⟨hx, hb, hml, hlk, hts, q0, hq0, hrt, hown, hnm, hfr, hlc, htab⟩, hC, hF, hc1, hc2, hdg, ⟨q, hq, hchk⟩, hrun⟩ := h
  cases hq0.symm.trans hq
  have hgs := hF.2.2.2.2.2.1
  simp only [am_step] at hrun
  simp only [am_rchk, Bool.and_eq_true, decide_eq_true_eq] at hchk
  dsimp only at hdg
  obtain ⟨e1, e2⟩ := hchk
  cases Nat.eq_of_beq_eq_true e1
  unfold am_cmp1 at hrun
  split at hrun
  · dsimp only at hrun
    refine lv_if_ne hx hb hdg e2 (fun hc => ?_) (fun hc => ?_)
    · rw [if_neg hc] at hrun
      exact am_go h0 hrun hgs.t
    · rw [if_pos hc] at hrun
      exact am_go h0 hrun hgs.t
  · cases hrun

theorem am_s_icmp_lt {len : Nat} {w : Int32} {a b c9 : Nat} {tb : List (Int32 × Nat)} {k9 : Int} (h : am_Hyp D aC xa uv X XL z l n y pc ls st σ r (.if_icmp .lt k9, len, w, a, b, c9, tb) p R s m args meth c H locs lsA f f0 n0 sl0) : W p l e R s m args below meth c H locs (ah_n σ - n0) (ah_sl σ - sl0) (am_MQ below (am_Q D aC xa uv z f0 n0 r) args s (ah_n r.2 - n0) (ah_sl r.2 - sl0) (am_A z)) (F0 m pc lsA (st.map (am_cv xa uv f σ))) := by
  have h0 := h
  obtain ⟨ih, hy, ⟨hx, hb, hml, hlk, hts, q0, hq0, hrt, hown, hnm, hfr, hlc, htab⟩, hC, hF, hc1, hc2, hdg, ⟨q, hq, hchk⟩, hrun⟩ := h
  cases hq0.symm.trans hq
  have hgs := hF.2.2.2.2.2.1
  simp only [am_step] at hrun
  simp only [am_rchk, Bool.and_eq_true, decide_eq_true_eq] at hchk
  dsimp only at hdg
  obtain ⟨e1, e2⟩ := hchk
  cases Nat.eq_of_beq_eq_true e1
  unfold am_cmp2 at hrun
  split at hrun
  · dsimp only at hrun
    refine lv_icmp_lt hx hb hdg e2 (fun hc => ?_) (fun hc => ?_)
    · rw [if_pos hc] at hrun
      exact am_go h0 hrun hgs.t.t
    · rw [if_neg hc] at hrun
      exact am_go h0 hrun hgs.t.t
  · cases hrun

theorem am_s_if_lt {len : Nat} {w : Int32} {a b c9 : Nat} {tb : List (Int32 × Nat)} {k9 : Int} (h : am_Hyp D aC xa uv X XL z l n y pc ls st σ r (.ifCond .lt k9, len, w, a, b, c9, tb) p R s m args meth c H locs lsA f f0 n0 sl0) : W p l e R s m args below meth c H locs (ah_n σ - n0) (ah_sl σ - sl0) (am_MQ below (am_Q D aC xa uv z f0 n0 r) args s (ah_n r.2 - n0) (ah_sl r.2 - sl0) (am_A z)) (F0 m pc lsA (st.map (am_cv xa uv f σ))) := by
  have h0 := h
  obtain ⟨ih, hy, ⟨hx, hb, hml, hlk, hts, q0, hq0, hrt, hown, hnm, hfr, hlc, htab⟩, hC, hF, hc1, hc2, hdg, ⟨q, hq, hchk⟩, hrun⟩ := h
  cases hq0.symm.trans hq
  have hgs := hF.2.2.2.2.2.1
  simp only [am_step] at hrun
  simp only [am_rchk, Bool.and_eq_true, decide_eq_true_eq] at hchk
  dsimp only at hdg
  obtain ⟨e1, e2⟩ := hchk
  cases Nat.eq_of_beq_eq_true e1
  unfold am_cmp1 at hrun
  split at hrun
  · dsimp only at hrun
    refine lv_if_lt hx hb hdg e2 (fun hc => ?_) (fun hc => ?_)
    · rw [if_pos hc] at hrun
      exact am_go h0 hrun hgs.t
    · rw [if_neg hc] at hrun
      exact am_go h0 hrun hgs.t
  · cases hrun

theorem am_s_icmp_ge {len : Nat} {w : Int32} {a b c9 : Nat} {tb : List (Int32 × Nat)} {k9 : Int} (h : am_Hyp D aC xa uv X XL z l n y pc ls st σ r (.if_icmp .ge k9, len, w, a, b, c9, tb) p R s m args meth c H locs lsA f f0 n0 sl0) : W p l e R s m args below meth c H locs (ah_n σ - n0) (ah_sl σ - sl0) (am_MQ below (am_Q D aC xa uv z f0 n0 r) args s (ah_n r.2 - n0) (ah_sl r.2 - sl0) (am_A z)) (F0 m pc lsA (st.map (am_cv xa uv f σ))) := by
  have h0 := h
  obtain ⟨ih, hy, ⟨hx, hb, hml, hlk, hts, q0, hq0, hrt, hown, hnm, hfr, hlc, htab⟩, hC, hF, hc1, hc2, hdg, ⟨q, hq, hchk⟩, hrun⟩ := h
  cases hq0.symm.trans hq
  have hgs := hF.2.2.2.2.2.1
  simp only [am_step] at hrun
  simp only [am_rchk, Bool.and_eq_true, decide_eq_true_eq] at hchk
  dsimp only at hdg
  obtain ⟨e1, e2⟩ := hchk
  cases Nat.eq_of_beq_eq_true e1
  unfold am_cmp2 at hrun
  split at hrun
  · dsimp only at hrun
    refine lv_icmp_ge hx hb hdg e2 (fun hc => ?_) (fun hc => ?_)
    · rw [if_pos hc] at hrun
      exact am_go h0 hrun hgs.t.t
    · rw [if_neg hc] at hrun
      exact am_go h0 hrun hgs.t.t
  · cases hrun

theorem am_s_if_ge {len : Nat} {w : Int32} {a b c9 : Nat} {tb : List (Int32 × Nat)} {k9 : Int} (h : am_Hyp D aC xa uv X XL z l n y pc ls st σ r (.ifCond .ge k9, len, w, a, b, c9, tb) p R s m args meth c H locs lsA f f0 n0 sl0) : W p l e R s m args below meth c H locs (ah_n σ - n0) (ah_sl σ - sl0) (am_MQ below (am_Q D aC xa uv z f0 n0 r) args s (ah_n r.2 - n0) (ah_sl r.2 - sl0) (am_A z)) (F0 m pc lsA (st.map (am_cv xa uv f σ))) := by
  have h0 := h
  obtain ⟨ih, hy, ⟨hx, hb, hml, hlk, hts, q0, hq0, hrt, hown, hnm, hfr, hlc, htab⟩, hC, hF, hc1, hc2, hdg, ⟨q, hq, hchk⟩, hrun⟩ := h
  cases hq0.symm.trans hq
  have hgs := hF.2.2.2.2.2.1
  simp only [am_step] at hrun
  simp only [am_rchk, Bool.and_eq_true, decide_eq_true_eq] at hchk
  dsimp only at hdg
  obtain ⟨e1, e2⟩ := hchk
  cases Nat.eq_of_beq_eq_true e1
  unfold am_cmp1 at hrun
  split at hrun
  · dsimp only at hrun
    refine lv_if_ge hx hb hdg e2 (fun hc => ?_) (fun hc => ?_)
    · rw [if_pos hc] at hrun
      exact am_go h0 hrun hgs.t
    · rw [if_neg hc] at hrun
      exact am_go h0 hrun hgs.t
  · cases hrun

theorem am_s_icmp_gt {len : Nat} {w : Int32} {a b c9 : Nat} {tb : List (Int32 × Nat)} {k9 : Int} (h : am_Hyp D aC xa uv X XL z l n y pc ls st σ r (.if_icmp .gt k9, len, w, a, b, c9, tb) p R s m args meth c H locs lsA f f0 n0 sl0) : W p l e R s m args below meth c H locs (ah_n σ - n0) (ah_sl σ - sl0) (am_MQ below (am_Q D aC xa uv z f0 n0 r) args s (ah_n r.2 - n0) (ah_sl r.2 - sl0) (am_A z)) (F0 m pc lsA (st.map (am_cv xa uv f σ))) := by
  have h0 := h
  obtain ⟨ih, hy, ⟨hx, hb, hml, hlk, hts, q0, hq0, hrt, hown, hnm, hfr, hlc, htab⟩, hC, hF, hc1, hc2, hdg, ⟨q, hq, hchk⟩, hrun⟩ := h
  cases hq0.symm.trans hq
  have hgs := hF.2.2.2.2.2.1
  simp only [am_step] at hrun
  simp only [am_rchk, Bool.and_eq_true, decide_eq_true_eq] at hchk
  dsimp only at hdg
  obtain ⟨e1, e2⟩ := hchk
  cases Nat.eq_of_beq_eq_true e1
  unfold am_cmp2 at hrun
  split at hrun
  · dsimp only at hrun
    refine lv_icmp_gt hx hb hdg e2 (fun hc => ?_) (fun hc => ?_)
    · rw [if_pos hc] at hrun
      exact am_go h0 hrun hgs.t.t
    · rw [if_neg hc] at hrun
      exact am_go h0 hrun hgs.t.t
  · cases hrun

theorem am_s_if_gt {len : Nat} {w : Int32} {a b c9 : Nat} {tb : List (Int32 × Nat)} {k9 : Int} (h : am_Hyp D aC xa uv X XL z l n y pc ls st σ r (.ifCond .gt k9, len, w, a, b, c9, tb) p R s m args meth c H locs lsA f f0 n0 sl0) : W p l e R s m args below meth c H locs (ah_n σ - n0) (ah_sl σ - sl0) (am_MQ below (am_Q D aC xa uv z f0 n0 r) args s (ah_n r.2 - n0) (ah_sl r.2 - sl0) (am_A z)) (F0 m pc lsA (st.map (am_cv xa uv f σ))) := by
  have h0 := h
  obtain ⟨ih, hy, ⟨hx, hb, hml, hlk, hts, q0, hq0, hrt, hown, hnm, hfr, hlc, htab⟩, hC, hF, hc1, hc2, hdg, ⟨q, hq, hchk⟩, hrun⟩ := h
  cases hq0.symm.trans hq
  have hgs := hF.2.2.2.2.2.1
  simp only [am_step] at hrun
  simp only [am_rchk, Bool.and_eq_true, decide_eq_true_eq] at hchk
  dsimp only at hdg
  obtain ⟨e1, e2⟩ := hchk
  cases Nat.eq_of_beq_eq_true e1
  unfold am_cmp1 at hrun
  split at hrun
  · dsimp only at hrun
    refine lv_if_gt hx hb hdg e2 (fun hc => ?_) (fun hc => ?_)
    · rw [if_pos hc] at hrun
      exact am_go h0 hrun hgs.t
    · rw [if_neg hc] at hrun
      exact am_go h0 hrun hgs.t
  · cases hrun

theorem am_s_icmp_le {len : Nat} {w : Int32} {a b c9 : Nat} {tb : List (Int32 × Nat)} {k9 : Int} (h : am_Hyp D aC xa uv X XL z l n y pc ls st σ r (.if_icmp .le k9, len, w, a, b, c9, tb) p R s m args meth c H locs lsA f f0 n0 sl0) : W p l e R s m args below meth c H locs (ah_n σ - n0) (ah_sl σ - sl0) (am_MQ below (am_Q D aC xa uv z f0 n0 r) args s (ah_n r.2 - n0) (ah_sl r.2 - sl0) (am_A z)) (F0 m pc lsA (st.map (am_cv xa uv f σ))) := by
  have h0 := h
  obtain ⟨ih, hy, ⟨hx, hb, hml, hlk, hts, q0, hq0, hrt, hown, hnm, hfr, hlc, htab⟩, hC, hF, hc1, hc2, hdg, ⟨q, hq, hchk⟩, hrun⟩ := h
  cases hq0.symm.trans hq
  have hgs := hF.2.2.2.2.2.1
  simp only [am_step] at hrun
  simp only [am_rchk, Bool.and_eq_true, decide_eq_true_eq] at hchk
  dsimp only at hdg
  obtain ⟨e1, e2⟩ := hchk
  cases Nat.eq_of_beq_eq_true e1
  unfold am_cmp2 at hrun
  split at hrun
  · dsimp only at hrun
    refine lv_icmp_le hx hb hdg e2 (fun hc => ?_) (fun hc => ?_)
    · rw [if_pos hc] at hrun
      exact am_go h0 hrun hgs.t.t
    · rw [if_neg hc] at hrun
      exact am_go h0 hrun hgs.t.t
  · cases hrun

theorem am_s_if_le {len : Nat} {w : Int32} {a b c9 : Nat} {tb : List (Int32 × Nat)} {k9 : Int} (h : am_Hyp D aC xa uv X XL z l n y pc ls st σ r (.ifCond .le k9, len, w, a, b, c9, tb) p R s m args meth c H locs lsA f f0 n0 sl0) : W p l e R s m args below meth c H locs (ah_n σ - n0) (ah_sl σ - sl0) (am_MQ below (am_Q D aC xa uv z f0 n0 r) args s (ah_n r.2 - n0) (ah_sl r.2 - sl0) (am_A z)) (F0 m pc lsA (st.map (am_cv xa uv f σ))) := by
  have h0 := h
  obtain ⟨ih, hy, ⟨hx, hb, hml, hlk, hts, q0, hq0, hrt, hown, hnm, hfr, hlc, htab⟩, hC, hF, hc1, hc2, hdg, ⟨q, hq, hchk⟩, hrun⟩ := h
  cases hq0.symm.trans hq
  have hgs := hF.2.2.2.2.2.1
  simp only [am_step] at hrun
  simp only [am_rchk, Bool.and_eq_true, decide_eq_true_eq] at hchk
  dsimp only at hdg
  obtain ⟨e1, e2⟩ := hchk
  cases Nat.eq_of_beq_eq_true e1
  unfold am_cmp1 at hrun
  split at hrun
  · dsimp only at hrun
    refine lv_if_le hx hb hdg e2 (fun hc => ?_) (fun hc => ?_)
    · rw [if_pos hc] at hrun
      exact am_go h0 hrun hgs.t
    · rw [if_neg hc] at hrun
      exact am_go h0 hrun hgs.t
  · cases hrun

end AmSimple
