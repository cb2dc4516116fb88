theorem am_hd13 : am_md.all (fun q => q.2.2.2.2.2.2.isEmpty || Nat.beq q.2.2.2.1 13) = true := by decide +kernel
theorem am_stopLink : Cond.classLink (am_ow 13) 12 "BrotliWordsModel$Stop" ∈ am_T := am_T_of (k := 1227) (by decide +kernel) rfl
section AmCall2
variable {D : va_G} {aC : Nat → ClassId} {xa : Nat → Nat} {uv : Nat → Value} {X : Nat → Nat → Int32} {XL : Nat → Nat} {z : Nat}
variable {l : Launch} {n y pc : Nat} {ls st : List am_V} {σ : am_H} {r : am_O × am_H} {p : Program} {e : Env} {R : Room} {s : State} {m : MethodId} {args : Array Value} {below : List Frame} {meth : Method} {c : Code} {H : Heap} {locs : List Loc} {lsA : Array Slot} {f : Nat → Nat} {f0 : (Nat → Nat) × am_H} {n0 sl0 : Nat}
theorem am_hws (hts : ∀ w ∈ am_T, w.before args s = true) : ∀ w ∈ am_T, ∀ (a' : Array Value) (U : State), s.WarmedH U.vm → w.before a' U = true := fun w hw _ _ hW => word_at hW (good_of_word (List.mem_filter.mp hw).2) (hts w hw)
/-- behind a call: what holds of the frame -/
theorem am_aftFc {st' : List am_V} {q : am_O × am_H} {f' : Nat → Nat} {st₀ t : State} {H1 : Heap} {L : List Loc} (hF : am_Fc D aC xa uv z s f0 n0 sl0 y ls st σ H locs lsA f) (hex : am_ex σ q.2) (hff : ∀ k, k < ah_n σ → f' k = f k) (hHr : am_Hr D aC xa uv z f' q.2 t.heap) (hFr : va_F (am_A z) st₀ t) (h0 : st₀.heap = H) (ht : t.heap = H1) (hL : ∀ q ∈ L, am_A z q.base) (hle : ah_n σ ≤ ah_n q.2 ∧ ah_sl σ ≤ ah_sl q.2) (hg : am_gl q.2 st') :
    am_Fc D aC xa uv z s f0 n0 sl0 y ls st' q.2 H1 (locs ++ L) lsA f' := by
  obtain ⟨a1, a2, a3, a4, a5, a6, a7, a8, a9⟩ := hF
  refine ⟨by rw [← ht]; exact hHr, ⟨?_, fun x hx hA => ?_, fun x hx => ?_⟩, am_ls_cong xa uv (fun v hv => am_cv_ex xa uv hex hff (a5 v hv)) a3, a4, fun v hv => am_gv_ex hex (a5 v hv), hg, ⟨am_ex_tr a7.1 hex, fun k hk => (hff k (by omega)).trans (a7.2 k hk)⟩, by omega, by omega⟩
  · have h1 := hFr.1
    rw [h0, ht] at h1
    exact Nat.le_trans a2.1 h1
  · have h1 := hFr.2 x (by rw [h0]; exact Nat.lt_of_lt_of_le hx a2.1) hA
    rw [h0, ht] at h1
    exact h1.trans (a2.2.1 x hx hA)
  · rcases List.mem_append.mp hx with h | h
    · exact a2.2.2 x h
    · exact hL x h
/-- a call of a method of the table -/
theorem am_callGo {row : am_Row} (h : am_Hyp D aC xa uv X XL z l n y pc ls st σ r row p R s m args meth c H locs lsA f f0 n0 sl0) {a : Nat} {as rest : List am_V} {stA : List Value} {tb : List (Int32 × Nat)} (ha : a < 264)
    (hrun : am_aft tb (fun v σ => am_run am_ak X XL am_code am_ml n y (pc + 3) ls (v ++ rest) σ) (fun h x σ => am_run am_ak X XL am_code am_ml n y h ls [av_r x.1 x.2] σ) (am_run am_ak X XL am_code am_ml n a 0 (am_ent (am_ml a) as) [] σ) = some r)
    (hE : am_Ent p l e R s m args below meth c H locs (ah_n σ - n0) (ah_sl σ - sl0) (F0 m pc lsA stA) (am_nm a) (as.map (am_cv xa uv f σ)).toArray (rest.map (am_cv xa uv f σ)))
    (hnl : as.all am_nl = true) (hlen : as.length ≤ am_ml a) (hga : am_gl σ as) (hgr : am_gl σ rest) (hr4 : rest.length ≤ 4) (hfr : am_fr a + 1 ≤ R.frames) (hlc : 8 + (am_ml a + 11) + am_lc a ≤ R.locals) {q0 : MethodName × Nat × Option FieldType × Nat × Nat × Nat × List (Nat × Nat × Nat × Nat)} (hq0 : am_md[y]? = some q0) (htab : c.exceptionTable.toList.map (fun h => (h.startPc, h.endPc, h.handlerPc, h.catchType)) = q0.2.2.2.2.2.2) (hhd : am_hdchk pc q0.2.2.2.2.2.2 tb = true) :
    W p l e R s m args below meth c H locs (ah_n σ - n0) (ah_sl σ - sl0) (am_MQ below (am_Q D aC xa uv z f0 n0 r) args s (ah_n r.2 - n0) (ah_sl r.2 - sl0) (am_A z)) (F0 m pc lsA stA) := by
  obtain ⟨ih, hy, hG, hC, hF, hc1, hc2, -⟩ := h
  have hG0 := hG
  obtain ⟨hx, hb, hml, hlk, hts, q1, hq1, hrt, hown, hnm, -, -, -⟩ := hG
  cases hq1.symm.trans hq0
  cases hq : am_run am_ak X XL am_code am_ml n a 0 (am_ent (am_ml a) as) [] σ with
  | none => rw [hq] at hrun; cases hrun
  | some q =>
    rw [hq] at hrun
    have hM := am_metOf ih ha hq f hnl hlen
    have hle := am_le_run am_ak X XL am_code am_ml _ _ _ _ _ _ _ hq
    have hle2 : ah_n q.2 ≤ ah_n r.2 ∧ ah_sl q.2 ≤ ah_sl r.2 := by
      obtain ⟨o, σ2⟩ := q
      cases o with
      | inl v => exact am_le_run am_ak X XL am_code am_ml _ _ _ _ _ _ _ (show am_run am_ak X XL am_code am_ml n y (pc + 3) ls (v.toList ++ rest) σ2 = some r from hrun)
      | inr x =>
        cases tb with
        | nil =>
          have h9 : some (Sum.inr x, σ2) = some r := hrun
          cases h9
          exact ⟨Nat.le_refl _, Nat.le_refl _⟩
        | cons z9 t9 => exact am_le_run am_ak X XL am_code am_ml _ _ _ _ _ _ _ (show am_run am_ak X XL am_code am_ml n y z9.2 ls [av_r x.1 x.2] σ2 = some r from hrun)
    have a8 := hF.2.2.2.2.2.2.2.1
    have a9 := hF.2.2.2.2.2.2.2.2
    obtain ⟨nm, mx, rt, o9, fr9, lc9, hd9, k9, g1, -, -, -, g5, -, -, -, g7, -⟩ := am_md_spec ha
    have hnm9 : am_nm a = nm := by unfold am_nm; rw [g1]; rfl
    refine am_callW (A0 := fun _ => True) (H0 := H) (maxL := am_ml a) (nL := am_ml y) hE hM am_Pc_blind rfl rfl hfr hlc (am_hws hts) ?_ ?_ hml (hF.2.2.1.1.trans hF.2.2.2.1) (am_wt hr4) ⟨by omega, by omega⟩ ?_ ?_
    · intro U mk hW hn
      rw [hnm9] at hn
      obtain ⟨meth9, c9, f1, f2, -, f4, -⟩ := am_his ha g1 (fun w hw => am_hws hts w hw #[] U hW) hn
      exact ⟨meth9, c9, f1, f2, f4⟩
    · intro a' U hW
      rw [hnm9]
      exact am_hws hts _ g7 a' U hW
    · intro U hU hW
      have hS := hF.2.1
      refine ⟨rfl, am_Cx_to D aC xa uv X XL z hW (fun x hx9 => ?_) ?_ hC, by rw [hU]; exact hF.1, hga⟩
      · rw [hU]; exact hS.2.1 x (Nat.lt_of_lt_of_le hx9 hC.2.2.2.1) (Nat.not_le.mpr hx9)
      · rw [hU]; exact Nat.le_trans hC.2.2.2.1 hS.1
    · intro o st₀ t H1 L hst0 ht hal hQ hL
      obtain ⟨⟨f', ⟨hex, hff⟩, hHr, hoc⟩, hFr⟩ := hQ
      have hex : am_ex σ q.2 := hex
      have hff : ∀ k, k < ah_n σ → f' k = f k := hff
      have ec : ah_n σ - n0 + (ah_n q.2 - ah_n σ) = ah_n q.2 - n0 := by omega
      have es : ah_sl σ - sl0 + (ah_sl q.2 - ah_sl σ) = ah_sl q.2 - sl0 := by omega
      have hrest : rest.map (am_cv xa uv f σ) = rest.map (am_cv xa uv f' q.2) := List.map_congr_left fun v hv => (am_cv_ex xa uv hex hff (hgr v hv)).symm
      have hgr2 : am_gl q.2 rest := fun v hv => am_gv_ex hex (hgr v hv)
      rw [ec, es, hrest]
      obtain ⟨o9, σ2⟩ := q
      cases o9 with
      | inl v =>
        cases v with
        | none =>
          have ho : o = .returned none := hoc
          subst ho
          exact ih y (pc + 3) ls rest σ2 r hrun hy p e R s m args below meth c H1 (locs ++ L) lsA f' f0 n0 sl0 hG0 hC (am_aftFc (q := (.inl none, σ2)) hF hex hff hHr hFr hst0 ht hL hle hgr2) hc1 hc2
        | some v =>
          obtain ⟨ho, hv1, hv2⟩ := (show o = .returned (some (am_cv xa uv f' σ2 v)) ∧ am_gv σ2 v ∧ am_nl v = true from hoc)
          subst ho
          exact ih y (pc + 3) ls (v :: rest) σ2 r hrun hy p e R s m args below meth c H1 (locs ++ L) lsA f' f0 n0 sl0 hG0 hC (am_aftFc (q := (.inl (some v), σ2)) hF hex hff hHr hFr hst0 ht hL hle (am_gl.c hv1 hgr2)) hc1 hc2
      | inr x =>
        obtain ⟨xt, xi⟩ := x
        obtain ⟨ho, hx12, hxg⟩ := (show o = .threw (f' (ah_ad σ2 xt xi)) ∧ xt = 12 ∧ am_gq σ2 (xt, xi) from hoc)
        subst ho
        subst hx12
        cases tb with
        | nil =>
          have h9 : some (Sum.inr (12, xi), σ2) = some r := hrun
          cases h9
          have hFc := am_aftFc (q := (.inr (12, xi), σ2)) (st' := rest) hF hex hff hHr hFr hst0 ht hL hle hgr2
          exact am_WT_leave hlk (am_uncov htab hhd) (fun t2 ht2 _ => ⟨⟨f', hFc.2.2.2.2.2.2.1, by rw [ht2]; exact hFc.1, ⟨rfl, rfl, hxg⟩⟩, hFc.2.1.F ht2⟩) hFc.2.1.2.2
        | cons z9 t9 =>
          obtain ⟨xx, hx1, hx2, hx3, hx4, hx5⟩ := am_cov htab hhd
          have hFc := am_aftFc (q := (.inr (12, xi), σ2)) (st' := [av_r 12 xi]) hF hex hff hHr hFr hst0 ht hL hle (am_gl.c hxg (fun _ h9 => by cases h9))
          have hgo := ih y z9.2 ls [av_r 12 xi] σ2 r hrun hy p e R s m args below meth c H1 (locs ++ L) lsA f' f0 n0 sl0 hG0 hC hFc hc1 hc2
          rw [← hx4] at hgo
          simp only [List.map_cons, List.map_nil, am_cvr (show 12 < 200 by omega)] at hgo
          have h13 := List.all_eq_true.mp am_hd13 q0 (List.mem_of_getElem? hq0)
          have ho13 : q0.2.2.2.1 = 13 := by
            simp only [Bool.or_eq_true] at h13
            rcases h13 with h13 | h13
            · have h14 : q0.2.2.2.2.2.2 = [] := by simpa using h13
              rw [h14] at hhd
              cases hhd
            · exact Nat.eq_of_beq_eq_true h13
          rw [ho13] at hown
          obtain ⟨rr, hr1, cell, hc9, hc10, hc11, -⟩ := hFc.1.1 _ _ (am_ws_obj (aC := aC) (xa := xa) (uv := uv) (f := f') hxg (show 12 < 14 by omega))
          have hkn := (hC.1.1 12 _ (show vwCl[12]? = some (RX12, TX12, 7) from rfl)).2
          exact am_WT_catch (C := RX12) hx1 hx2 (by rw [hx3]; omega) hown (by rw [hx3]; exact hts _ am_stopLink) hc9 hc11 hkn hc10 hgo
/-- a row of the table of calls -/
theorem am_ca_spec {o k v a b c9 fr lc : Nat} (h : am_cachk o k v a b c9 fr lc = true) : a < 264 ∧ (∃ hh pos : Nat, lw_tbl[pos]? = some (bif Nat.beq hh 0 then Cond.methodLink (am_ow o) k (am_nm a) else Cond.methodLinkNest (am_ow o) k (am_nm a) (am_host hh))) ∧ (∃ sg, parseMethodDescriptor (am_nm a).desc = some sg ∧ am_argc a = sg.parameters.length) ∧ am_mk_ a = v ∧ (v = 1 → c9 = 999 ∧ b = am_argc a) ∧ (v ≠ 1 → c9 < 14 ∧ b = am_argc a + 1) ∧ (v = 0 → am_ow c9 = (am_nm a).cls) ∧ b ≤ am_ml a ∧ am_fr a + 1 ≤ fr ∧ 8 + (am_ml a + 11) + am_lc a ≤ lc := by
  unfold am_cachk at h
  simp only [Bool.and_eq_true] at h
  obtain ⟨⟨⟨⟨⟨⟨⟨⟨h1, h2⟩, h3⟩, h4⟩, h5⟩, h6⟩, h7⟩, h8⟩, h9⟩ := h
  have ha : a < 264 := am_blt' h2
  refine ⟨ha, ?_, ?_, Nat.eq_of_beq_eq_true h4, fun e1 => ?_, fun e1 => ?_, fun e1 => ?_, Nat.le_of_ble_eq_true h7, Nat.le_of_ble_eq_true h8, Nat.le_of_ble_eq_true h9⟩
  · obtain ⟨⟨o', k', a', b', c', v', hh, pos⟩, hq, g⟩ := List.any_eq_true.mp h1
    simp only [Bool.and_eq_true] at g
    obtain ⟨⟨⟨⟨⟨g1, g2⟩, g3⟩, g4⟩, g5⟩, g6⟩ := g
    cases Nat.eq_of_beq_eq_true g1
    cases Nat.eq_of_beq_eq_true g2
    cases Nat.eq_of_beq_eq_true g3
    have g7 := List.all_eq_true.mp am_mt_all _ hq
    unfold am_mchk at g7
    have n900 : Nat.beq a 900 = false := by
      cases hb : Nat.beq a 900
      · rfl
      · have := Nat.eq_of_beq_eq_true hb; omega
    have n901 : Nat.beq a 901 = false := by
      cases hb : Nat.beq a 901
      · rfl
      · have := Nat.eq_of_beq_eq_true hb; omega
    have n902 : Nat.beq a 902 = false := by
      cases hb : Nat.beq a 902
      · rfl
      · have := Nat.eq_of_beq_eq_true hb; omega
    have n903 : Nat.beq a 903 = false := by
      cases hb : Nat.beq a 903
      · rfl
      · have := Nat.eq_of_beq_eq_true hb; omega
    simp only [n900, n901, n902, n903, cond_false] at g7
    refine ⟨hh, pos, ?_⟩
    cases hb : Nat.beq hh 0 <;> simp only [hb, cond_true, cond_false, decide_eq_true_eq] at g7 ⊢ <;> exact g7
  · unfold am_argc
    cases hp : parseMethodDescriptor (am_nm a).desc with
    | none => rw [hp] at h3; cases h3
    | some sg => exact ⟨sg, rfl, rfl⟩
  · subst e1
    simp only [show Nat.beq 1 1 = true from rfl, cond_true, Bool.and_eq_true] at h5
    exact ⟨Nat.eq_of_beq_eq_true h5.1, Nat.eq_of_beq_eq_true h5.2⟩
  · have : Nat.beq v 1 = false := by
      cases hb : Nat.beq v 1
      · rfl
      · exact absurd (Nat.eq_of_beq_eq_true hb) e1
    simp only [this, cond_false, Bool.and_eq_true] at h5
    exact ⟨am_blt' h5.1, Nat.eq_of_beq_eq_true h5.2⟩
  · subst e1
    simpa using h6
end AmCall2
