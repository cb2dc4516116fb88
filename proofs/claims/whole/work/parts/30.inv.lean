theorem am_obj0 : am_mt.all (fun q => !Nat.beq q.2.2.1 900 || Nat.beq q.2.2.2.2.2.2.1 0) = true := by decide +kernel
theorem am_code999 : am_code 999 = [] := by decide +kernel
section AmInv
variable {D : va_G} {aC : Nat → ClassId} {xa : Nat → Nat} {uv : Nat → Value} {X : Nat → Nat → Int32} {XL : Nat → Nat} {z : Nat}
variable {l : Launch} {n y pc : Nat} {ls st : List am_V} {σ : am_H} {r : am_O × am_H} {p : Program} {e : Env} {R : Room} {s : State} {m : MethodId} {args : Array Value} {below : List Frame} {meth : Method} {c : Code} {H : Heap} {locs : List Loc} {lsA : Array Slot} {f : Nat → Nat} {f0 : (Nat → Nat) × am_H} {n0 sl0 : Nat}
theorem am_run999 {pc : Nat} {ls st : List am_V} : am_run am_ak X XL am_code am_ml n 999 pc ls st σ = none := by
  cases n with
  | zero => rfl
  | succ n =>
    show am_step _ _ _ _ _ _ _ _ _ (am_look (am_code 999) pc) = none
    rw [am_code999]
    rfl
/-- what a call asks -/
theorem am_call_spec {a b c9 : Nat} {C : am_CT} {KA : am_R → List am_V → am_R} (h : am_call a b c9 C st σ KA = some r) : ∃ as rest, st = as.reverse ++ rest ∧ as.length = b ∧ rest.length ≤ 4 ∧ (c9 = 999 ∨ am_recv c9 as = true) ∧ as.all am_nl = true ∧ KA (C a as σ) rest = some r := by
  unfold am_call at h
  cases h2 : (Nat.ble b st.length && Nat.ble (st.length - b) 4 && (Nat.beq c9 999 || am_recv c9 (st.take b).reverse) && (st.take b).all am_nl) <;> simp only [h2, cond_true, cond_false] at h
  · cases h
  · simp only [Bool.and_eq_true, Bool.or_eq_true] at h2
    obtain ⟨⟨⟨h3, h4⟩, h5⟩, h6⟩ := h2
    refine ⟨(st.take b).reverse, st.drop b, by rw [List.reverse_reverse, List.take_append_drop], ?_, ?_, h5.imp_left Nat.eq_of_beq_eq_true, ?_, h⟩
    · rw [List.length_reverse, List.length_take]
      have := Nat.le_of_ble_eq_true h3
      omega
    · rw [List.length_drop]; exact Nat.le_of_ble_eq_true h4
    · rw [List.all_reverse]; exact h6
theorem am_recv_spec {c9 : Nat} {as : List am_V} (h : am_recv c9 as = true) : ∃ i as', as = av_r c9 i :: as' := by
  unfold am_recv at h
  split at h
  · rename_i t i r9
    cases Nat.eq_of_beq_eq_true h
    exact ⟨i, r9, rfl⟩
  · cases h
theorem am_gl_rev {as rest : List am_V} (h : am_gl σ (as.reverse ++ rest)) : am_gl σ as ∧ am_gl σ rest := ⟨fun v hv => h v (List.mem_append_left _ (List.mem_reverse.mpr hv)), fun v hv => h v (List.mem_append_right _ hv)⟩
theorem am_s_invstatic {len : Nat} {w : Int32} {a b c9 : Nat} {tb : List (Int32 × Nat)} {k9 : Nat} (h : am_Hyp D aC xa uv X XL z l n y pc ls st σ r (.invokestatic k9, len, w, a, b, c9, tb) p R s m args meth c H locs lsA f f0 n0 sl0) : W p l e R s m args below meth c H locs (ah_n σ - n0) (ah_sl σ - sl0) (am_MQ below (am_Q D aC xa uv z f0 n0 r) args s (ah_n r.2 - n0) (ah_sl r.2 - sl0) (am_A z)) (F0 m pc lsA (st.map (am_cv xa uv f σ))) := by
  have h0 := h
  obtain ⟨ih, hy, ⟨hx, hb, hml, hlk, hts, q0, hq0, hrt, hown, hnm, hfr, hlc, htab⟩, hC, hF, hc1, hc2, hdg, ⟨q, hq, hchk⟩, hrun⟩ := h
  cases hq0.symm.trans hq
  have hgs := hF.2.2.2.2.2.1
  simp only [am_step] at hrun
  simp only [am_rchk, Bool.and_eq_true, decide_eq_true_eq] at hchk
  dsimp only at hdg
  obtain ⟨⟨e1, ehd⟩, e2⟩ := hchk
  cases Nat.eq_of_beq_eq_true e1
  cases h901 : Nat.beq a 901 <;> simp only [h901, cond_true, cond_false] at hrun e2
  · cases h902 : Nat.beq a 902 <;> simp only [h902, cond_true, cond_false] at hrun
    · cases h903 : Nat.beq a 903 <;> simp only [h903, cond_true, cond_false] at hrun
      · simp only [h902, h903, Bool.or_false, cond_false] at e2
        obtain ⟨ha, ⟨hh, pos, hl⟩, ⟨sg, hsg1, hsg2⟩, hmk, hv1, -, -, hbml, hfr2, hlc2⟩ := am_ca_spec e2
        obtain ⟨hc9, hbb⟩ := hv1 rfl
        obtain ⟨as, rest, rfl, hal, hr4, -, hnl, hrun⟩ := am_call_spec hrun
        obtain ⟨hga, hgr⟩ := am_gl_rev hgs
        obtain ⟨nm, mx, rt, o9, fr9, lc9, hd9, k8, g1, g2, g3, -, g5, g6, -, g7, g8, g9, -⟩ := am_md_spec ha
        have hnm9 : am_nm a = nm := by unfold am_nm; rw [g1]; rfl
        have hk8 : k8 = 1 := g2.symm.trans hmk
        have hcode : Cond.code nm (am_by a) mx rt ∈ am_T := by
          rcases g7 with g7 | g7
          · exact g7.2
          · omega
        have hE : am_Ent p l e R s m args below meth c H locs (ah_n σ - n0) (ah_sl σ - sl0) (F0 m pc lsA ((as.reverse ++ rest).map (am_cv xa uv f σ))) (am_nm a) (as.map (am_cv xa uv f σ)).toArray (rest.map (am_cv xa uv f σ)) := by
          rw [hnm9] at hl hsg1 ⊢
          cases hb0 : Nat.beq hh 0 <;> simp only [hb0, cond_true, cond_false] at hl
          · exact am_entSN hx hown (va_Nw.use rfl (hC.2.2.2.2.2.1 _ (List.mem_filter.mpr ⟨List.mem_of_getElem? hl, rfl⟩))) (hts _ (g9 hk8)) (hts _ g8) (hts _ hcode) g6 rfl (argsL := as.map (am_cv xa uv f σ)) (fun sig h9 => by rw [hsg1] at h9; cases h9; rw [List.length_map]; omega) (by show (as.reverse ++ rest).map _ = _; rw [List.map_append, List.map_reverse]) (by rw [hb]; exact hdg)
          · exact am_entS hx hown (hts _ (am_T_of hl rfl)) (hts _ (g9 hk8)) (hts _ g8) (hts _ hcode) g6 rfl (argsL := as.map (am_cv xa uv f σ)) (fun sig h9 => by rw [hsg1] at h9; cases h9; rw [List.length_map]; omega) (by show (as.reverse ++ rest).map _ = _; rw [List.map_append, List.map_reverse]) (by rw [hb]; exact hdg)
        exact am_callGo h0 ha hrun hE hnl (by omega) hga hgr hr4 (by omega) (by omega) hq0 htab ehd
      · have ha := Nat.eq_of_beq_eq_true h903
        subst ha
        simp only [show Nat.beq 903 902 = false from rfl, show Nat.beq 903 903 = true from rfl, Bool.false_or, cond_true, Bool.and_eq_true] at e2
        obtain ⟨⟨e3, e4⟩, e5⟩ := e2
        obtain ⟨⟨o', k', a', b', c', v', hh, pos⟩, hq9, g⟩ := List.any_eq_true.mp e3
        simp only [Bool.and_eq_true] at g
        obtain ⟨⟨⟨⟨g1, g2⟩, g3⟩, -⟩, g4⟩ := g
        cases Nat.eq_of_beq_eq_true g1
        cases Nat.eq_of_beq_eq_true g2
        cases Nat.eq_of_beq_eq_true g3
        cases Nat.eq_of_beq_eq_true g4
        have g7 := List.all_eq_true.mp am_mt_all _ hq9
        simp only [am_mchk, show Nat.beq 903 900 = false from rfl, show Nat.beq 903 901 = false from rfl, show Nat.beq 903 902 = false from rfl, show Nat.beq 903 903 = true from rfl, show Nat.beq 0 0 = true from rfl, cond_true, cond_false, decide_eq_true_eq] at g7
        unfold am_b4 at hrun
        split at hrun
        · rename_i y' x' r9
          cases h4 : Nat.ble r9.length 4 <;> simp only [h4, cond_true, cond_false] at hrun
          · cases hrun
          · have hr4 := Nat.le_of_ble_eq_true h4
            have hwt := am_wt (xa := xa) (uv := uv) (f := f) (σ := σ) hr4
            have hfr9 := Nat.le_of_ble_eq_true e4
            have hlc9 := Nat.le_of_ble_eq_true e5
            have hle := am_le_run am_ak X XL am_code am_ml _ _ _ _ _ _ _ hrun
            exact va_mmin hx hb (hml.trans (hF.2.2.1.1.trans hF.2.2.2.1).symm) hown (hts _ (am_T_of g7 rfl)) (hts _ (am_T_of (k := 607) (by decide +kernel) rfl)) (hts _ (am_T_of (k := 132) (by decide +kernel) rfl)) (hts _ (am_T_of (k := 608) (by decide +kernel) rfl)) (by omega) (by omega) (by omega) (by omega) hdg (am_go h0 hrun (am_gl.c trivial hgs.t.t))
        · cases hrun
    · have ha := Nat.eq_of_beq_eq_true h902
      subst ha
      simp only [show Nat.beq 902 902 = true from rfl, Bool.true_or, cond_true, Bool.and_eq_true] at e2
      obtain ⟨⟨e3, e4⟩, e5⟩ := e2
      obtain ⟨⟨o', k', a', b', c', v', hh, pos⟩, hq9, g⟩ := List.any_eq_true.mp e3
      simp only [Bool.and_eq_true] at g
      obtain ⟨⟨⟨⟨g1, g2⟩, g3⟩, -⟩, g4⟩ := g
      cases Nat.eq_of_beq_eq_true g1
      cases Nat.eq_of_beq_eq_true g2
      cases Nat.eq_of_beq_eq_true g3
      cases Nat.eq_of_beq_eq_true g4
      have g7 := List.all_eq_true.mp am_mt_all _ hq9
      simp only [am_mchk, show Nat.beq 902 900 = false from rfl, show Nat.beq 902 901 = false from rfl, show Nat.beq 902 902 = true from rfl, show Nat.beq 0 0 = true from rfl, cond_true, cond_false, decide_eq_true_eq] at g7
      unfold am_b4 at hrun
      split at hrun
      · rename_i y' x' r9
        cases h4 : Nat.ble r9.length 4 <;> simp only [h4, cond_true, cond_false] at hrun
        · cases hrun
        · have hr4 := Nat.le_of_ble_eq_true h4
          have hwt := am_wt (xa := xa) (uv := uv) (f := f) (σ := σ) hr4
          have hfr9 := Nat.le_of_ble_eq_true e4
          have hlc9 := Nat.le_of_ble_eq_true e5
          have hle := am_le_run am_ak X XL am_code am_ml _ _ _ _ _ _ _ hrun
          exact va_mmax hx hb (hml.trans (hF.2.2.1.1.trans hF.2.2.2.1).symm) hown (hts _ (am_T_of g7 rfl)) (hts _ (am_T_of (k := 164) (by decide +kernel) rfl)) (hts _ (am_T_of (k := 132) (by decide +kernel) rfl)) (hts _ (am_T_of (k := 165) (by decide +kernel) rfl)) (by omega) (by omega) (by omega) (by omega) hdg (am_go h0 hrun (am_gl.c trivial hgs.t.t))
      · cases hrun
  · have ha := Nat.eq_of_beq_eq_true h901
    subst ha
    simp only [Bool.and_eq_true] at e2
    obtain ⟨⟨e3, e4⟩, e5⟩ := e2
    obtain ⟨⟨o', k', a', b', c', v', hh, pos⟩, hq9, g⟩ := List.any_eq_true.mp e3
    simp only [Bool.and_eq_true] at g
    obtain ⟨⟨⟨g1, g2⟩, g3⟩, -⟩ := g
    cases Nat.eq_of_beq_eq_true g1
    cases Nat.eq_of_beq_eq_true g2
    cases Nat.eq_of_beq_eq_true g3
    have g7 := List.all_eq_true.mp am_mt_all _ hq9
    simp only [am_mchk, show Nat.beq 901 900 = false from rfl, show Nat.beq 901 901 = true from rfl, cond_true, cond_false] at g7
    unfold am_inP at hrun
    split at hrun
    · rename_i hi lo x r9
      cases h4 : Nat.ble r9.length 4 <;> simp only [h4, cond_true, cond_false] at hrun
      · cases hrun
      · have hr4 := Nat.le_of_ble_eq_true h4
        have hfr9 := Nat.le_of_ble_eq_true e4
        have hlc9 := Nat.le_of_ble_eq_true e5
        have hle := am_le_run am_ak X XL am_code am_ml _ _ _ _ _ _ _ hrun
        have hcw : Cond.code ⟨"BrotliWordsModel", "in", "(JJJ)Z"⟩ prog_14_method_2_code 6 (some .boolean) ∈ am_T := am_T_of (k := 1506) (by decide +kernel) rfl
        have hstw : Cond.static ⟨"BrotliWordsModel", "in", "(JJJ)Z"⟩ ∈ am_T := am_T_of (k := 1505) (by decide +kernel) rfl
        have hinw : Cond.initialized "BrotliWordsModel" ∈ am_T := am_T_of (k := 143) (by decide +kernel) rfl
        have hE : am_Ent p l e R s m args below meth c H locs (ah_n σ - n0) (ah_sl σ - sl0) (F0 m pc lsA (.long hi :: .long lo :: .long x :: r9.map (am_cv xa uv f σ))) ⟨"BrotliWordsModel", "in", "(JJJ)Z"⟩ #[.long x, .long lo, .long hi] (r9.map (am_cv xa uv f σ)) := by
          cases hb0 : Nat.beq hh 0 <;> simp only [hb0, cond_true, cond_false, decide_eq_true_eq] at g7
          · exact am_entSN hx hown (va_Nw.use rfl (hC.2.2.2.2.2.1 _ (List.mem_filter.mpr ⟨List.mem_of_getElem? g7, rfl⟩))) (hts _ hstw) (hts _ hinw) (hts _ hcw) (by decide) rfl (argsL := [.long x, .long lo, .long hi]) (fun sig h9 => by
              have h8 : (parseMethodDescriptor "(JJJ)Z").map (fun d => d.parameters.length) = some 3 := by decide +kernel
              rw [h9] at h8
              exact (Option.some.inj h8).symm) rfl (by rw [hb]; exact hdg)
          · exact am_entS hx hown (hts _ (am_T_of g7 rfl)) (hts _ hstw) (hts _ hinw) (hts _ hcw) (by decide) rfl (argsL := [.long x, .long lo, .long hi]) (fun sig h9 => by
              have h8 : (parseMethodDescriptor "(JJJ)Z").map (fun d => d.parameters.length) = some 3 := by decide +kernel
              rw [h9] at h8
              exact (Option.some.inj h8).symm) rfl (by rw [hb]; exact hdg)
        show W p l e R s m args below meth c H locs _ _ _ (F0 m pc lsA (.long hi :: .long lo :: .long x :: r9.map (am_cv xa uv f σ)))
        refine am_callW (A0 := fun _ => True) (H0 := H) (maxL := 6) (nL := am_ml y) hE (am_inMet l x lo hi) (fun _ _ _ _ h9 => h9) rfl rfl (by show 0 + 1 ≤ _; omega) (by show 8 + (6 + 11) + 0 ≤ _; omega) (am_hws hts) ?_ (fun a' U hW => am_hws hts _ hinw a' U hW) hml (hF.2.2.1.1.trans hF.2.2.2.1) (am_wt hr4) ⟨by omega, by omega⟩ (fun _ _ _ => rfl) ?_
        · intro U mk hW hn
          obtain ⟨meth9, c9, f1, f2, -, f4, -⟩ := Cond.code_spec (args := #[]) (first := U) (o := none) (idx := []) hn (am_hws hts _ hcw #[] U hW)
          exact ⟨meth9, c9, f1, f2, f4⟩
        · intro o st₀ t H1 L hst0 ht hal hQ hL
          obtain ⟨ho, hheap⟩ := hQ
          subst ho
          have hHH : H1 = H := by rw [← ht, hheap, hst0]
          subst hHH
          have hLn : L = [] := by
            cases L with
            | nil => rfl
            | cons q9 _ => exact absurd (hL q9 List.mem_cons_self) id
          subst hLn
          rw [List.append_nil]
          exact am_go h0 hrun (am_gl.c trivial hgs.t.t.t)
    · cases hrun

theorem am_s_invvirtual {len : Nat} {w : Int32} {a b c9 : Nat} {tb : List (Int32 × Nat)} {k9 : Nat} (h : am_Hyp D aC xa uv X XL z l n y pc ls st σ r (.invokevirtual k9, len, w, a, b, c9, tb) p R s m args meth c H locs lsA f f0 n0 sl0) : W p l e R s m args below meth c H locs (ah_n σ - n0) (ah_sl σ - sl0) (am_MQ below (am_Q D aC xa uv z f0 n0 r) args s (ah_n r.2 - n0) (ah_sl r.2 - sl0) (am_A z)) (F0 m pc lsA (st.map (am_cv xa uv f σ))) := by
  have h0 := h
  obtain ⟨ih, hy, ⟨hx, hb, hml, hlk, hts, q0, hq0, hrt, hown, hnm, hfr, hlc, htab⟩, hC, hF, hc1, hc2, hdg, ⟨q, hq, hchk⟩, hrun⟩ := h
  cases hq0.symm.trans hq
  have hgs := hF.2.2.2.2.2.1
  simp only [am_step] at hrun
  simp only [am_rchk, Bool.and_eq_true, decide_eq_true_eq] at hchk
  dsimp only at hdg
  obtain ⟨⟨e1, ehd⟩, e2⟩ := hchk
  cases Nat.eq_of_beq_eq_true e1
  obtain ⟨as, rest, rfl, hal, hr4, hrc, hnl, hrun⟩ := am_call_spec hrun
  obtain ⟨hga, hgr⟩ := am_gl_rev hgs
  simp only [Bool.or_eq_true] at e2
  rcases e2 with e2 | e2
  · cases Nat.eq_of_beq_eq_true e2
    rw [am_run999] at hrun
    cases hrun
  · obtain ⟨ha, ⟨hh, pos, hl⟩, ⟨sg, hsg1, hsg2⟩, hmk, -, hv2, hv3, hbml, hfr2, hlc2⟩ := am_ca_spec e2
    obtain ⟨hc9, hbb⟩ := hv2 (by omega)
    have hcls := hv3 rfl
    obtain ⟨nm, mx, rt, o9, fr9, lc9, hd9, k8, g1, g2, g3, -, g5, g6, -, g7, g8, -, -, g9⟩ := am_md_spec ha
    have hnm9 : am_nm a = nm := by unfold am_nm; rw [g1]; rfl
    have hk8 : k8 = 0 := g2.symm.trans hmk
    have hrc : am_recv c9 as = true := by
      rcases hrc with h9 | h9
      · omega
      · exact h9
    obtain ⟨i, as', rfl⟩ := am_recv_spec hrc
    obtain ⟨C, T, N, hv⟩ := am_cl_some hc9
    obtain ⟨-, hCo, -⟩ := am_cl_spec hc9 hv
    have hgq : am_gq σ (c9, i) := hga.h
    obtain ⟨rr, hr1, cell, hcell, hcc, hcv, -⟩ := hF.1.1 _ _ (am_ws_obj (aC := aC) (xa := xa) (uv := uv) (f := f) hgq hc9)
    have hkn := (hC.1.1 c9 _ hv).2.1
    have hsig : ∀ mk methM, s.methodNamed? nm = some mk → s.vm.method? mk = some methM → methM.sig = sg := by
      intro mk methM h8 h9
      obtain ⟨meth9, c8, f1, -, -, -, -, -, -, f8⟩ := am_his ha g1 hts h8
      cases f1.symm.trans h9
      rw [hnm9] at hsg1
      exact Option.some.inj (f8.symm.trans hsg1)
    have hE : am_Ent p l e R s m args below meth c H locs (ah_n σ - n0) (ah_sl σ - sl0) (F0 m pc lsA (((av_r c9 i :: as').reverse ++ rest).map (am_cv xa uv f σ))) (am_nm a) ((av_r c9 i :: as').map (am_cv xa uv f σ)).toArray (rest.map (am_cv xa uv f σ)) := by
      have hst : ((av_r c9 i :: as').reverse ++ rest).map (am_cv xa uv f σ) = (as'.map (am_cv xa uv f σ)).reverse ++ .ref (f (ah_ad σ c9 i)) :: rest.map (am_cv xa uv f σ) := by
        rw [List.reverse_cons, List.append_assoc, List.map_append, List.map_reverse]
        simp only [List.map_append, List.map_cons, List.map_nil, am_cvr (show c9 < 200 by omega)]
        rfl
      have hag : (av_r c9 i :: as').map (am_cv xa uv f σ) = .ref (f (ah_ad σ c9 i)) :: as'.map (am_cv xa uv f σ) := by
        rw [List.map_cons, am_cvr (show c9 < 200 by omega)]
      have hl5 : as'.length = sg.parameters.length := by
        have : as'.length + 1 = b := hal
        omega
      have hfc : s.vm.findClass nm.cls = some cell.cls := by
        rw [hcc, ← hnm9, ← hcls, ← hCo]; exact hkn
      rw [hst, hag, hnm9]
      rw [hnm9] at hl
      cases hb0 : Nat.beq hh 0 <;> simp only [hb0, cond_true, cond_false] at hl
      · exact am_entVN (C := nm.cls) hx hown (va_Nw.use rfl (hC.2.2.2.2.2.1 _ (List.mem_filter.mpr ⟨List.mem_of_getElem? hl, rfl⟩))) (hts _ (g9 hk8).1) (hts _ (g9 hk8).2) g6 hcell (by rw [hcv]; rfl) hfc hsig rfl (by rw [List.length_map]; exact hl5) rfl (by rw [hb]; exact hdg)
      · exact am_entV (C := nm.cls) hx hown (hts _ (am_T_of hl rfl)) (hts _ (g9 hk8).1) (hts _ (g9 hk8).2) g6 (by rw [hnm9] at hsg1; exact hsg1) hcell (by rw [hcv]; rfl) hfc hsig rfl (by rw [List.length_map]; exact hl5) rfl (by rw [hb]; exact hdg)
    exact am_callGo h0 ha hrun hE hnl (by omega) hga hgr hr4 (by omega) (by omega) hq0 htab ehd

theorem am_s_invspecial {len : Nat} {w : Int32} {a b c9 : Nat} {tb : List (Int32 × Nat)} {k9 : Nat} (h : am_Hyp D aC xa uv X XL z l n y pc ls st σ r (.invokespecial k9, len, w, a, b, c9, tb) p R s m args meth c H locs lsA f f0 n0 sl0) : W p l e R s m args below meth c H locs (ah_n σ - n0) (ah_sl σ - sl0) (am_MQ below (am_Q D aC xa uv z f0 n0 r) args s (ah_n r.2 - n0) (ah_sl r.2 - sl0) (am_A z)) (F0 m pc lsA (st.map (am_cv xa uv f σ))) := by
  have h0 := h
  obtain ⟨ih, hy, ⟨hx, hb, hml, hlk, hts, q0, hq0, hrt, hown, hnm, hfr, hlc, htab⟩, hC, hF, hc1, hc2, hdg, ⟨q, hq, hchk⟩, hrun⟩ := h
  cases hq0.symm.trans hq
  have hgs := hF.2.2.2.2.2.1
  simp only [am_step] at hrun
  simp only [am_rchk, Bool.and_eq_true, decide_eq_true_eq] at hchk
  dsimp only at hdg
  obtain ⟨⟨e1, ehd⟩, e2⟩ := hchk
  cases Nat.eq_of_beq_eq_true e1
  cases h900 : Nat.beq a 900 <;> simp only [h900, cond_true, cond_false] at hrun e2
  · obtain ⟨as, rest, rfl, hal, hr4, hrc, hnl, hrun⟩ := am_call_spec hrun
    obtain ⟨hga, hgr⟩ := am_gl_rev hgs
    obtain ⟨ha, ⟨hh, pos, hl⟩, ⟨sg, hsg1, hsg2⟩, hmk, -, hv2, -, hbml, hfr2, hlc2⟩ := am_ca_spec e2
    obtain ⟨hc9, hbb⟩ := hv2 (by omega)
    obtain ⟨nm, mx, rt, o9, fr9, lc9, hd9, k8, g1, g2, g3, -, g5, g6, -, g7, g8, -, g9, -⟩ := am_md_spec ha
    have hnm9 : am_nm a = nm := by unfold am_nm; rw [g1]; rfl
    have hk8 : k8 = 2 := g2.symm.trans hmk
    have hrc : am_recv c9 as = true := by
      rcases hrc with h9 | h9
      · omega
      · exact h9
    obtain ⟨i, as', rfl⟩ := am_recv_spec hrc
    obtain ⟨hi1, hi2, hi3⟩ := g9 hk8
    have hcode : Cond.code nm (am_by a) mx none ∈ am_T := by
      rcases g7 with g7 | g7
      · rw [hi3] at g7; exact g7.2
      · omega
    have hE : am_Ent p l e R s m args below meth c H locs (ah_n σ - n0) (ah_sl σ - sl0) (F0 m pc lsA (((av_r c9 i :: as').reverse ++ rest).map (am_cv xa uv f σ))) (am_nm a) ((av_r c9 i :: as').map (am_cv xa uv f σ)).toArray (rest.map (am_cv xa uv f σ)) := by
      have hst : ((av_r c9 i :: as').reverse ++ rest).map (am_cv xa uv f σ) = (as'.map (am_cv xa uv f σ)).reverse ++ .ref (f (ah_ad σ c9 i)) :: rest.map (am_cv xa uv f σ) := by
        rw [List.reverse_cons, List.append_assoc, List.map_append, List.map_reverse]
        simp only [List.map_append, List.map_cons, List.map_nil, am_cvr (show c9 < 200 by omega)]
        rfl
      have hag : (av_r c9 i :: as').map (am_cv xa uv f σ) = .ref (f (ah_ad σ c9 i)) :: as'.map (am_cv xa uv f σ) := by
        rw [List.map_cons, am_cvr (show c9 < 200 by omega)]
      have hl5 : as'.length = sg.parameters.length := by
        have : as'.length + 1 = b := hal
        omega
      rw [hst, hag, hnm9]
      rw [hnm9] at hl hsg1
      cases hb0 : Nat.beq hh 0 <;> simp only [hb0, cond_true, cond_false] at hl
      · exact am_entIN hx hown hi2 (va_Nw.use rfl (hC.2.2.2.2.2.1 _ (List.mem_filter.mpr ⟨List.mem_of_getElem? hl, rfl⟩))) (hts _ hi1) (hts _ hcode) g6 rfl (fun sig h9 => by rw [hsg1] at h9; cases h9; rw [List.length_map]; exact hl5) rfl (by rw [hb]; exact hdg)
      · exact am_entI hx hown hi2 (hts _ (am_T_of hl rfl)) (hts _ hi1) (hts _ hcode) g6 rfl (fun sig h9 => by rw [hsg1] at h9; cases h9; rw [List.length_map]; exact hl5) rfl (by rw [hb]; exact hdg)
    exact am_callGo h0 ha hrun hE hnl (by omega) hga hgr hr4 (by omega) (by omega) hq0 htab ehd
  · have ha := Nat.eq_of_beq_eq_true h900
    subst ha
    simp only [Bool.and_eq_true] at e2
    obtain ⟨⟨e3, e4⟩, e5⟩ := e2
    obtain ⟨⟨o', k', a', b', c', v', hh, pos⟩, hq9, g⟩ := List.any_eq_true.mp e3
    simp only [Bool.and_eq_true] at g
    obtain ⟨⟨⟨g1, g2⟩, g3⟩, -⟩ := g
    cases Nat.eq_of_beq_eq_true g1
    cases Nat.eq_of_beq_eq_true g2
    cases Nat.eq_of_beq_eq_true g3
    have g7 := List.all_eq_true.mp am_mt_all _ hq9
    simp only [am_mchk, show Nat.beq 900 900 = true from rfl, cond_true, cond_false] at g7
    split at hrun
    · rename_i qt qi r9
      cases h4 : (Nat.blt qt 200 && Nat.ble r9.length 4) <;> simp only [h4, cond_true, cond_false] at hrun
      · cases hrun
      · simp only [Bool.and_eq_true] at h4
        have hq2 := am_blt' h4.1
        have hr4 := Nat.le_of_ble_eq_true h4.2
        have hwt := am_wt (xa := xa) (uv := uv) (f := f) (σ := σ) hr4
        have hfr9 := Nat.le_of_ble_eq_true e4
        have hlc9 := Nat.le_of_ble_eq_true e5
        have hlk9 : Cond.methodLink (am_ow q0.2.2.2.1) k9 Lib.objectInit ∈ am_T := by
          cases hb0 : Nat.beq hh 0 <;> simp only [hb0, cond_true, cond_false, decide_eq_true_eq] at g7
          · have h9 := List.all_eq_true.mp am_obj0 _ hq9
            simp [hb0] at h9
          · exact am_T_of g7 rfl
        have hgo := am_go (e := e) (below := below) h0 hrun hgs.t
        show W p l e R s m args below meth c H locs _ _ _ (F0 m pc lsA (am_cv xa uv f σ (.inr (.inr (some (qt, qi)))) :: r9.map (am_cv xa uv f σ)))
        rw [am_cvr hq2]
        exact W.objInit hx hb hown (hts _ hlk9) (hts _ (am_T_of (k := 155) (by decide +kernel) rfl)) (hts _ (am_T_of (k := 156) (by decide +kernel) rfl)) rfl (by show lsA.size = _; rw [hml]; exact hF.2.2.1.1.trans hF.2.2.2.1) rfl hdg (by omega) (by show 2 * 0 + _ + 12 ≤ _; omega) hgo
    · cases hrun

end AmInv
