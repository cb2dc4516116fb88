section AmHeap4
variable {D : va_G} {aC : Nat → ClassId} {xa : Nat → Nat} {uv : Nat → Value} {X : Nat → Nat → Int32} {XL : Nat → Nat} {z : Nat}
variable {l : Launch} {n y pc : Nat} {ls st : List am_V} {σ : am_H} {r : am_O × am_H} {p : Program} {e : Env} {R : Room} {s : State} {m : MethodId} {args : Array Value} {below : List Frame} {meth : Method} {c : Code} {H : Heap} {locs : List Loc} {lsA : Array Slot} {f : Nat → Nat} {f0 : (Nat → Nat) × am_H} {n0 sl0 : Nat}
theorem am_arrI : Cond.arrayClass .int ∈ am_T := am_T_of (k := 200) (by decide +kernel) rfl
theorem am_arrB : Cond.arrayClass .byte ∈ am_T := am_T_of (k := 186) (by decide +kernel) rfl
theorem am_arrZ : Cond.arrayClass .boolean ∈ am_T := am_T_of (k := 1494) (by decide +kernel) rfl
theorem am_kind0 {ty : FieldType} {k : Nat} (h : match ty with
    | .int => k = 0
    | .boolean => k = 2
    | .object _ => k = 1
    | .array _ => k = 1
    | _ => False) : (k = 0 → ty = .int) ∧ (k = 2 → ty = .boolean) ∧ (k = 1 → (∃ n, ty = .object n) ∨ ∃ t, ty = .array t) := by
  cases ty <;> simp_all
/-- a value comes to a field -/
theorem am_put {t i : Nat} {k9 b c9 : Nat} {v : Value} {rest : List Value} {Q : State → Prop} {cells slots : Nat} {q : MethodName × Nat × Option FieldType × Nat × Nat × Nat × List (Nat × Nat × Nat × Nat)}
    (hx : p.tables.exec = Jvm.exec) (hb : c.code = am_by y) (hts : ∀ w ∈ am_T, w.before args s = true) (hown : s.vm.findClass (am_ow q.2.2.2.1) = some m.cls) (hnm : meth.name = q.1.name) (hC : am_Cx D aC xa uv X XL z s s.heap) (hH : am_Hr D aC xa uv z f σ H) (hS : va_S (am_A z) s.heap H locs) (hgq : am_gq σ (t, i)) (hdg : decode (am_by y) pc = .ok (.putfield k9, 3))
    (e2 : am_ft.any (fun q9 => Nat.beq q9.1 q.2.2.2.1 && Nat.beq q9.2.1 k9 && Nat.beq q9.2.2.1 t && Nat.beq q9.2.2.2.1 b && Nat.beq q9.2.2.2.2.1 c9 && (match vwCl[t]? with
      | none => false
      | some (_, T, _) => bif (T b).2.2.2 then decide (q.1.name = "<init>") && decide ((T b).1 = am_ow q.2.2.2.1) && Nat.beq q9.2.2.2.2.2.1 0 else true)) = true)
    (hty : ∀ ty, ((c9 = 0 → ty = .int) ∧ (c9 = 2 → ty = .boolean) ∧ (c9 = 1 → (∃ n, ty = .object n) ∨ ∃ t, ty = .array t)) → narrow ty v = v ∧ fits ty v = true)
    (kk : t < 14 → b < am_nf t → c9 = am_fk t b → ∀ (H1 : Heap) (locs1 : List Loc), va_P D vwCl ((am_ws aC xa uv f σ).set (ah_ad σ t i) (f (ah_ad σ t i), .inr (t, ((List.range (am_nf t)).map (am_fv xa uv f σ t i)).set b v))) H1 → va_D (am_A z) ((am_ws aC xa uv f σ).set (ah_ad σ t i) (f (ah_ad σ t i), .inr (t, ((List.range (am_nf t)).map (am_fv xa uv f σ t i)).set b v))) → va_S (am_A z) s.heap H1 locs1 → W p l e R s m args below meth c H1 locs1 cells slots Q (F0 m (pc + 3) lsA rest)) :
    W p l e R s m args below meth c H locs cells slots Q (F0 m pc lsA (v :: .ref (f (ah_ad σ t i)) :: rest)) := by
  obtain ⟨C, T, N, hh, pos, hv, ht, hbN, hc9, hP9, hlink⟩ := am_ft_spec (P := fun q9 => match vwCl[t]? with
      | none => false
      | some (_, T, _) => bif (T b).2.2.2 then decide (q.1.name = "<init>") && decide ((T b).1 = am_ow q.2.2.2.1) && Nat.beq q9.2.2.2.2.2.1 0 else true) e2
  obtain ⟨hin, hCo, hN, -, -, hkd⟩ := am_cl_spec ht hv
  obtain ⟨hnames, htys⟩ := am_cl_names ht hv
  have hws := am_ws_obj (aC := aC) (xa := xa) (uv := uv) (f := f) hgq ht
  have hlen : b < ((List.range (am_nf t)).map (am_fv xa uv f σ t i)).length := by simp; omega
  have hk9 := am_kind0 (hkd b hbN)
  rw [← hc9] at hk9
  obtain ⟨hn1, hn2⟩ := hty _ hk9
  have kk := kk ht (by omega) hc9
  simp only [hv] at hP9
  cases hfin : (T b).2.2.2
  · rcases hlink with ⟨-, hlink⟩ | ⟨-, host, hlink⟩
    · exact va_put hx hb hts hin (am_ty t) htys hnames hown hC.1 hH.1 hH.2.1 hS _ hws hv b hbN (hts _ hlink) (fun _ h9 => h9) hfin (htys b hbN) hn1 hn2 hlen hdg kk
    · exact va_putN hx hb hts hin (am_ty t) htys hnames hown hC.1 hH.1 hH.2.1 hS _ hws hv b hbN (va_Nw.use rfl (hC.2.2.2.2.2.1 _ (List.mem_filter.mpr ⟨List.mem_of_getElem? hlink, rfl⟩))) (fun _ h9 => h9) hfin (htys b hbN) hn1 hn2 hlen hdg kk
  · simp only [hfin, cond_true, Bool.and_eq_true, decide_eq_true_eq] at hP9
    obtain ⟨⟨g1, g2⟩, g3⟩ := hP9
    rcases hlink with ⟨-, hlink⟩ | ⟨hne, -⟩
    · exact va_putF hx hb hts hin (am_ty t) htys hnames hown hC.1 hH.1 hH.2.1 hS _ hws hv b hbN (hts _ hlink) (fun _ h9 => h9) hfin (hnm.trans g1) g2 (htys b hbN) hn1 hn2 hlen hdg kk
    · exact absurd (Nat.eq_of_beq_eq_true g3) hne
/-- goes on with a cell more -/
theorem am_goM {row : am_Row} (h : am_Hyp D aC xa uv X XL z l n y pc ls st σ r row p R s m args meth c H locs lsA f f0 n0 sl0) {pc' t k a9 : Nat} {st' : List am_V} {H' : Heap} {locs' : List Loc} (hr : am_run am_ak X XL am_code am_ml n y pc' ls (av_r t (am_cnt σ t) :: st') (am_mk σ t k) = some r) (ht : t < 14 ∨ (16 ≤ t ∧ t < 200 ∧ am_ak t < 5)) (hg : am_gl σ st')
    (hP : va_P D vwCl (am_ws aC xa uv f σ ++ [(a9, am_ce aC xa uv (am_u f (ah_n σ) a9) (am_mk σ t k) (t, am_cnt σ t))]) H') (hD : va_D (am_A z) (am_ws aC xa uv f σ ++ [(a9, am_ce aC xa uv (am_u f (ah_n σ) a9) (am_mk σ t k) (t, am_cnt σ t))])) (hS : va_S (am_A z) s.heap H' locs') :
    W p l e R s m args below meth c H' locs' (ah_n σ - n0 + 1) (ah_sl σ - sl0 + k) (am_MQ below (am_Q D aC xa uv z f0 n0 r) args s (ah_n r.2 - n0) (ah_sl r.2 - sl0) (am_A z)) (F0 m pc' lsA (.ref a9 :: st'.map (am_cv xa uv f σ))) := by
  obtain ⟨ih, hy, hG, hC, ⟨a1, a2, a3, a4, a5, a6, a7, a8, a9'⟩, h1, h2, -⟩ := h
  have hwf := a1.2.2
  have ht2 : t < 200 := by omega
  have e1 : ah_n σ - n0 + 1 = ah_n (am_mk σ t k) - n0 := by show _ = ah_n σ + 1 - n0; omega
  have e2 : ah_sl σ - sl0 + k = ah_sl (am_mk σ t k) - sl0 := by show _ = ah_sl σ + k - sl0; omega
  obtain ⟨hgn, hadn⟩ := am_gq_new (σ := σ) (t := t) (n := k) ht2
  have e3 : (Value.ref a9 :: st'.map (am_cv xa uv f σ)) = (av_r t (am_cnt σ t) :: st').map (am_cv xa uv (am_u f (ah_n σ) a9) (am_mk σ t k)) := by
    rw [List.map_cons, am_cvr ht2, hadn, am_u, if_pos rfl]
    congr 1
    exact List.map_congr_left fun v hv => (am_cv_mk xa uv hwf (hg v hv)).symm
  rw [e1, e2, e3]
  refine ih y pc' ls _ _ r hr hy p e R s m args below meth c H' locs' lsA (am_u f (ah_n σ) a9) f0 n0 sl0 hG hC ⟨⟨by rw [am_ws_mk aC xa uv hwf]; exact hP, by rw [am_ws_mk aC xa uv hwf]; exact hD, am_wf_mk hwf ht⟩, hS, am_ls_cong xa uv (fun v hv => am_cv_mk xa uv hwf (a5 v hv)) a3, a4, a5.mk hwf, am_gl.c hgn (hg.mk hwf), ⟨am_ex_tr a7.1 (am_ex_mk hwf t k), fun k9 hk9 => ?_⟩, ?_, ?_⟩ h1 h2
  · rw [am_u, if_neg (by omega)]; exact a7.2 k9 hk9
  · show n0 ≤ ah_n σ + 1; omega
  · show sl0 ≤ ah_sl σ + k; omega
theorem am_sw_tab {x : Int32} {K : Nat → am_R} {d pc : Nat} {r : am_O × am_H} : ∀ (tb : List (Int32 × Nat)) (offs : List Int) (lo : Int), am_tbchk pc lo offs tb = true → am_sw x K d tb = some r →
    ((x.toInt < lo ∨ lo + (offs.length : Int) ≤ x.toInt) ∧ K d = some r) ∨ ∃ (j : Nat) (off : Int) (tgt : Nat), offs[j]? = some off ∧ x.toInt = lo + j ∧ (pc : Int) + off = (tgt : Int) ∧ K tgt = some r
  | [], [], lo, _, h => Or.inl ⟨by simp; omega, h⟩
  | [], _ :: _, _, hc, _ => by simp [am_tbchk] at hc
  | _ :: _, [], _, hc, _ => by simp [am_tbchk] at hc
  | q :: tb, o :: os, lo, hc, h => by
    simp only [am_tbchk, Bool.and_eq_true, decide_eq_true_eq] at hc
    obtain ⟨⟨h1, h2⟩, h3⟩ := hc
    unfold am_sw at h
    by_cases hx : x = q.1
    · rw [if_pos hx] at h
      exact Or.inr ⟨0, o, q.2, rfl, by rw [hx, h1]; simp, h2, h⟩
    · rw [if_neg hx] at h
      have hne : x.toInt ≠ lo := fun e => hx (Int32.toInt_inj.mp (by rw [h1]; exact e))
      rcases am_sw_tab tb os (lo + 1) h3 h with ⟨h4, h5⟩ | ⟨j, off, tgt, h4, h5, h6, h7⟩
      · refine Or.inl ⟨?_, h5⟩
        simp only [List.length_cons]
        omega
      · exact Or.inr ⟨j + 1, off, tgt, h4, by rw [h5]; omega, h6, h7⟩
theorem am_sw_lk {x : Int32} {K : Nat → am_R} {d pc : Nat} {dd : Int} {r : am_O × am_H} (hd : (pc : Int) + dd = (d : Int)) : ∀ (tb : List (Int32 × Nat)) (ps : List (Int × Int)), am_lkchk pc ps tb = true → am_sw x K d tb = some r →
    ∃ (tgt : Nat), (pc : Int) + Op.lookupswitch.offset ps dd x.toInt = (tgt : Int) ∧ K tgt = some r
  | [], [], _, h => ⟨d, hd, h⟩
  | [], _ :: _, hc, _ => by simp [am_lkchk] at hc
  | _ :: _, [], hc, _ => by simp [am_lkchk] at hc
  | q :: tb, (a, o) :: os, hc, h => by
    simp only [am_lkchk, Bool.and_eq_true, decide_eq_true_eq] at hc
    obtain ⟨⟨h1, h2⟩, h3⟩ := hc
    unfold am_sw at h
    rw [Op.lookupswitch.offset_cons]
    by_cases hx : x = q.1
    · rw [if_pos hx] at h
      rw [if_pos (by rw [hx, h1])]
      exact ⟨q.2, h2, h⟩
    · rw [if_neg hx] at h
      rw [if_neg (fun e => hx (Int32.toInt_inj.mp (by rw [h1]; exact e.symm)))]
      exact am_sw_lk hd tb os h3 h
theorem am_s_putfield {len : Nat} {w : Int32} {a b c9 : Nat} {tb : List (Int32 × Nat)} {k9 : Nat} (h : am_Hyp D aC xa uv X XL z l n y pc ls st σ r (.putfield k9, len, w, a, b, c9, tb) p R s m args meth c H locs lsA f f0 n0 sl0) : W p l e R s m args below meth c H locs (ah_n σ - n0) (ah_sl σ - sl0) (am_MQ below (am_Q D aC xa uv z f0 n0 r) args s (ah_n r.2 - n0) (ah_sl r.2 - sl0) (am_A z)) (F0 m pc lsA (st.map (am_cv xa uv f σ))) := by
  have h0 := h
  obtain ⟨ih, hy, ⟨hx, hb, hml, hlk, hts, q0, hq0, hrt, hown, hnm, hfr, hlc, htab⟩, hC, hF, hc1, hc2, hdg, ⟨q, hq, hchk⟩, hrun⟩ := h
  cases hq0.symm.trans hq
  have hgs := hF.2.2.2.2.2.1
  simp only [am_step] at hrun
  simp only [am_rchk, Bool.and_eq_true, decide_eq_true_eq] at hchk
  dsimp only at hdg
  obtain ⟨e1, e2⟩ := hchk
  cases Nat.eq_of_beq_eq_true e1
  unfold am_putf at hrun
  split at hrun
  · rename_i x t i r9
    have hgq : am_gq σ (t, i) := hgs.t.h
    cases h2 : (Nat.beq t a && (Nat.beq c9 0 || (Nat.beq c9 2 && (x == 0 || x == 1)))) <;> simp only [h2, cond_true, cond_false] at hrun
    · cases hrun
    · simp only [Bool.and_eq_true, Bool.or_eq_true] at h2
      have h3 := Nat.eq_of_beq_eq_true h2.1
      subst h3
      have h4 : c9 = 0 ∨ (c9 = 2 ∧ (x = 0 ∨ x = 1)) := h2.2.imp Nat.eq_of_beq_eq_true (fun h => ⟨Nat.eq_of_beq_eq_true h.1, h.2.imp eq_of_beq eq_of_beq⟩)
      have ht : t < 14 := (am_ft_spec (P := _) e2).choose_spec.choose_spec.choose_spec.choose_spec.choose_spec.2.1
      show W p l e R s m args below meth c H locs _ _ _ (F0 m pc lsA (.int x :: am_cv xa uv f σ (.inr (.inr (some (t, i)))) :: r9.map (am_cv xa uv f σ)))
      rw [am_cvr (show t < 200 by omega)]
      refine am_put (q := q0) hx hb hts hown hnm hC hF.1 hF.2.1 hgq hdg e2 (fun ty hty => ?_) (fun _ hbn hc9 H1 locs1 hP hD hS => ?_)
      · rcases h4 with h4 | ⟨h4, h5⟩
        · rw [hty.1 h4]; exact ⟨rfl, rfl⟩
        · rw [hty.2.1 h4]
          rcases h5 with h5 | h5 <;> subst h5 <;> exact ⟨rfl, rfl⟩
      · refine am_goH h0 hrun rfl hgs.t.t (am_Hr_obj hF.1 hgq ht (am_wf_I hF.1.2.2 t i b x) rfl (fun t' i' hne => by show am_c σ.2.1 t i _ t' i' = _; rw [am_c, if_neg hne]) (fun _ _ _ => rfl) ?_ ?_ hP hD) hS
        · unfold am_fv
          have hk1 : Nat.beq (am_fk t b) 1 = false := by
            rw [← hc9]
            rcases h4 with h4 | ⟨h4, -⟩ <;> rw [h4] <;> rfl
          simp only [hk1, cond_false]
          show Value.int (am_c σ.2.1 t i (upd (σ.2.1 t i) b x) t i b) = _
          rw [am_c, if_pos ⟨rfl, rfl⟩, upd, if_pos rfl]
        · intro j' hj'
          unfold am_fv
          show (bif Nat.beq (am_fk t j') 1 then am_cv xa uv f (am_sI σ t i b x) (.inr (.inr (ah_R σ t i j'))) else .int (am_c σ.2.1 t i (upd (σ.2.1 t i) b x) t i j')) = _
          rw [am_c, if_pos ⟨rfl, rfl⟩, upd, if_neg hj', am_cv_base xa uv (σ := σ) (σ' := am_sI σ t i b x) rfl]
  · rename_i qq t i r9
    have hgq : am_gq σ (t, i) := hgs.t.h
    cases h2 : (Nat.beq t a && Nat.beq c9 1) <;> simp only [h2, cond_true, cond_false] at hrun
    · cases hrun
    · simp only [Bool.and_eq_true] at h2
      have h3 := Nat.eq_of_beq_eq_true h2.1
      subst h3
      have h4 := Nat.eq_of_beq_eq_true h2.2
      have ht : t < 14 := (am_ft_spec (P := _) e2).choose_spec.choose_spec.choose_spec.choose_spec.choose_spec.2.1
      show W p l e R s m args below meth c H locs _ _ _ (F0 m pc lsA (am_cv xa uv f σ (.inr (.inr qq)) :: am_cv xa uv f σ (.inr (.inr (some (t, i)))) :: r9.map (am_cv xa uv f σ)))
      rw [am_cvr (show t < 200 by omega)]
      have hvr : am_cv xa uv f σ (.inr (.inr qq)) = .null ∨ ∃ b9, am_cv xa uv f σ (.inr (.inr qq)) = .ref b9 := by
        rcases qq with _ | qq
        · exact Or.inl rfl
        · show am_rv xa uv f σ qq = _ ∨ ∃ b9, am_rv xa uv f σ qq = .ref b9
          unfold am_rv
          cases Nat.blt qq.1 200
          · cases Nat.blt qq.1 220
            · exact hC.2.2.2.2.1 qq.1
            · exact Or.inr ⟨_, rfl⟩
          · exact Or.inr ⟨_, rfl⟩
      refine am_put (q := q0) hx hb hts hown hnm hC hF.1 hF.2.1 hgq hdg e2 (fun ty hty => ?_) (fun _ hbn hc9 H1 locs1 hP hD hS => ?_)
      · rcases hty.2.2 h4 with ⟨n9, h5⟩ | ⟨n9, h5⟩ <;> rw [h5] <;> rcases hvr with h6 | ⟨b9, h6⟩ <;> rw [h6] <;> exact ⟨rfl, rfl⟩
      · refine am_goH h0 hrun rfl hgs.t.t (am_Hr_obj hF.1 hgq ht (am_wf_R hF.1.2.2 (fun r9 hr9 => ⟨by subst hr9; exact hgs.h, fun h16 => by omega⟩)) rfl (fun _ _ _ => rfl) (fun t' i' hne => by show am_c σ.2.2 t i _ t' i' = _; rw [am_c, if_neg hne]) ?_ ?_ hP hD) hS
        · unfold am_fv
          have hk1 : Nat.beq (am_fk t b) 1 = true := by
            rw [← hc9, h4]; rfl
          simp only [hk1, cond_true]
          show am_cv xa uv f (am_sR σ t i b qq) (.inr (.inr (am_c σ.2.2 t i (am_u (σ.2.2 t i) b qq) t i b))) = _
          rw [am_c, if_pos ⟨rfl, rfl⟩, am_u, if_pos rfl, am_cv_base xa uv (σ := σ) (σ' := am_sR σ t i b qq) rfl]
        · intro j' hj'
          unfold am_fv
          show (bif Nat.beq (am_fk t j') 1 then am_cv xa uv f (am_sR σ t i b qq) (.inr (.inr (am_c σ.2.2 t i (am_u (σ.2.2 t i) b qq) t i j'))) else .int (ah_I σ t i j')) = _
          rw [am_c, if_pos ⟨rfl, rfl⟩, am_u, if_neg hj', am_cv_base xa uv (σ := σ) (σ' := am_sR σ t i b qq) rfl]
  · cases hrun

theorem am_s_getstatic {len : Nat} {w : Int32} {a b c9 : Nat} {tb : List (Int32 × Nat)} {k9 : Nat} (h : am_Hyp D aC xa uv X XL z l n y pc ls st σ r (.getstatic k9, len, w, a, b, c9, tb) p R s m args meth c H locs lsA f f0 n0 sl0) : W p l e R s m args below meth c H locs (ah_n σ - n0) (ah_sl σ - sl0) (am_MQ below (am_Q D aC xa uv z f0 n0 r) args s (ah_n r.2 - n0) (ah_sl r.2 - sl0) (am_A z)) (F0 m pc lsA (st.map (am_cv xa uv f σ))) := by
  have h0 := h
  obtain ⟨ih, hy, ⟨hx, hb, hml, hlk, hts, q0, hq0, hrt, hown, hnm, hfr, hlc, htab⟩, hC, hF, hc1, hc2, hdg, ⟨q, hq, hchk⟩, hrun⟩ := h
  cases hq0.symm.trans hq
  have hgs := hF.2.2.2.2.2.1
  simp only [am_step] at hrun
  simp only [am_rchk, Bool.and_eq_true, decide_eq_true_eq] at hchk
  dsimp only at hdg
  obtain ⟨e1, e2⟩ := hchk
  cases Nat.eq_of_beq_eq_true e1
  obtain ⟨⟨o', k', a', h', pos⟩, hq9, e3⟩ := List.any_eq_true.mp e2
  simp only [Bool.and_eq_true] at e3
  obtain ⟨⟨e3, e4⟩, e5⟩ := e3
  cases Nat.eq_of_beq_eq_true e3
  cases Nat.eq_of_beq_eq_true e4
  cases Nat.eq_of_beq_eq_true e5
  have e6 := List.all_eq_true.mp am_st_ok _ hq9
  simp only [Bool.and_eq_true, Bool.or_eq_true] at e6
  obtain ⟨⟨g1, g2⟩, g3⟩ := e6
  have hge := am_blt' g1
  have ha : (200 ≤ a ∧ a < 211) ∨ a = 220 ∨ a = 221 := by
    rcases g2 with (g2 | g2) | g2
    · exact Or.inl ⟨hge, am_blt' g2⟩
    · exact Or.inr (Or.inl (Nat.eq_of_beq_eq_true g2))
    · exact Or.inr (Or.inr (Nat.eq_of_beq_eq_true g2))
  have hZ := hC.2.2.1 a ha
  have hgo := am_go (e := e) (below := below) h0 hrun (am_gl.c (show am_gv σ (av_r a 0) from Or.inl ⟨by show 200 ≤ a; omega, by show ¬ (212 ≤ a ∧ a < 220); omega⟩) hgs)
  have he : am_cv xa uv f σ (av_r a 0) = (bif Nat.blt a 220 then .ref (xa a) else uv a) := by
    show am_rv xa uv f σ (a, 0) = _
    unfold am_rv
    have h1 : Nat.blt a 200 = false := by
      cases hb9 : Nat.blt a 200
      · rfl
      · have := am_blt' hb9; omega
    simp only [h1, cond_false]
  simp only [List.map_cons] at hgo
  rw [he] at hgo
  cases hh : Nat.beq h' 0 <;> simp only [hh, cond_true, cond_false, decide_eq_true_eq] at g3
  · exact va_getsN hx hb hZ hF.2.1 hown (va_Nw.use rfl (hC.2.2.2.2.2.1 _ (List.mem_filter.mpr ⟨List.mem_of_getElem? g3, rfl⟩))) (fun _ h9 => h9) hdg hgo
  · exact va_gets hx hb hZ hF.2.1 hown (hts _ (am_T_of g3 rfl)) (fun _ h9 => h9) hdg hgo

theorem am_s_tab {len : Nat} {w : Int32} {a b c9 : Nat} {tb : List (Int32 × Nat)} {d9 lo9 hi9 : Int} {offs9 : Array Int} (h : am_Hyp D aC xa uv X XL z l n y pc ls st σ r (.tableswitch d9 lo9 hi9 offs9, len, w, a, b, c9, tb) p R s m args meth c H locs lsA f f0 n0 sl0) : W p l e R s m args below meth c H locs (ah_n σ - n0) (ah_sl σ - sl0) (am_MQ below (am_Q D aC xa uv z f0 n0 r) args s (ah_n r.2 - n0) (ah_sl r.2 - sl0) (am_A z)) (F0 m pc lsA (st.map (am_cv xa uv f σ))) := by
  have h0 := h
  obtain ⟨ih, hy, ⟨hx, hb, hml, hlk, hts, q0, hq0, hrt, hown, hnm, hfr, hlc, htab⟩, hC, hF, hc1, hc2, hdg, ⟨q, hq, hchk⟩, hrun⟩ := h
  cases hq0.symm.trans hq
  have hgs := hF.2.2.2.2.2.1
  simp only [am_step] at hrun
  simp only [am_rchk, Bool.and_eq_true, decide_eq_true_eq] at hchk
  dsimp only at hdg
  obtain ⟨⟨e1, e2⟩, e3⟩ := hchk
  split at hrun
  · rename_i x r9
    rcases am_sw_tab tb offs9.toList lo9 e2 hrun with ⟨h4, h5⟩ | ⟨j, off, tgt, h4, h5, h6, h7⟩
    · exact lv_tableOut hx hb hdg (by omega) e1 (am_go h0 h5 hgs.t)
    · have hj : j < offs9.toList.length := (List.getElem?_eq_some_iff.mp h4).1
      exact lv_tableIn hx hb hdg (by omega) (by omega) (show offs9[(x.toInt - lo9).toNat]? = some off by rw [show (x.toInt - lo9).toNat = j by omega, ← Array.getElem?_toList]; exact h4) h6 (am_go h0 h7 hgs.t)
  · cases hrun

theorem am_s_look {len : Nat} {w : Int32} {a b c9 : Nat} {tb : List (Int32 × Nat)} {d9 : Int} {ps9 : Array (Int × Int)} (h : am_Hyp D aC xa uv X XL z l n y pc ls st σ r (.lookupswitch d9 ps9, len, w, a, b, c9, tb) p R s m args meth c H locs lsA f f0 n0 sl0) : W p l e R s m args below meth c H locs (ah_n σ - n0) (ah_sl σ - sl0) (am_MQ below (am_Q D aC xa uv z f0 n0 r) args s (ah_n r.2 - n0) (ah_sl r.2 - sl0) (am_A z)) (F0 m pc lsA (st.map (am_cv xa uv f σ))) := by
  have h0 := h
  obtain ⟨ih, hy, ⟨hx, hb, hml, hlk, hts, q0, hq0, hrt, hown, hnm, hfr, hlc, htab⟩, hC, hF, hc1, hc2, hdg, ⟨q, hq, hchk⟩, hrun⟩ := h
  cases hq0.symm.trans hq
  have hgs := hF.2.2.2.2.2.1
  simp only [am_step] at hrun
  simp only [am_rchk, Bool.and_eq_true, decide_eq_true_eq] at hchk
  dsimp only at hdg
  obtain ⟨⟨e1, e2⟩, e3⟩ := hchk
  split at hrun
  · rename_i x r9
    obtain ⟨tgt, h4, h5⟩ := am_sw_lk e1 tb ps9.toList e2 hrun
    exact lv_lookup hx hb hdg e3 rfl h4 (am_go h0 h5 hgs.t)
  · cases hrun

end AmHeap4
