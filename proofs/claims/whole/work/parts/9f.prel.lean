/-! the law's first steps: two objects are made -/
section Prel
variable {D : va_G} {aC : Nat → ClassId} {xa : Nat → Nat} {uv : Nat → Value} {X : Nat → Nat → Int32} {XL : Nat → Nat} {z : Nat}
/-- from here the machine comes to Q -/
def am_Wat (D : va_G) (aC : Nat → ClassId) (xa : Nat → Nat) (uv : Nat → Value) (z : Nat) (p : Program) (l : Launch) (e : Env) (R : Room) (s : State) (m : MethodId) (args : Array Value) (below : List Frame) (meth : Method) (c : Code) (f0 : (Nat → Nat) × am_H) (n0 sl0 : Nat) (Q : State → Prop) (y pc : Nat) (ls st : List am_V) (σ : am_H) : Prop :=
  ∀ (H : Heap) (locs : List Loc) (lsA : Array Slot) (f : Nat → Nat), am_Fc D aC xa uv z s f0 n0 sl0 y ls st σ H locs lsA f → W p l e R s m args below meth c H locs (ah_n σ - n0) (ah_sl σ - sl0) Q (F0 m pc lsA (st.map (am_cv xa uv f σ)))
/-- a row of a method, and what its bytes say -/
def am_RowAt (y pc : Nat) (row : am_Row) : Prop := decode (am_by y) pc = .ok (row.1, row.2.1) ∧ ∃ q, am_md[y]? = some q ∧ am_rchk q.2.2.2.1 q.2.2.1 q.2.2.2.2.1 q.2.2.2.2.2.1 (decide (q.1.name = "<init>")) q.2.2.2.2.2.2 pc row = true
theorem am_rowAt {y pc : Nat} {row : am_Row} (hok : am_mrchk y = true) (hrow : am_look (am_code y) pc = some row) : am_RowAt y pc row := by
  unfold am_mrchk at hok
  cases hmd : am_md[y]? with
  | none => rw [hmd] at hok; cases hok
  | some q =>
    obtain ⟨nm, mx, rt, o, fr, lc, hd⟩ := q
    simp only [hmd] at hok
    have h4 := List.all_eq_true.mp hok _ (am_look_mem hrow)
    simp only [Bool.and_eq_true, decide_eq_true_eq] at h4
    exact ⟨h4.1, ⟨_, hmd, h4.2⟩⟩
variable {l : Launch} {n y pc : Nat} {ls st : List am_V} {σ : am_H} {p : Program} {e : Env} {R : Room} {s : State} {m : MethodId} {args : Array Value} {below : List Frame} {meth : Method} {c : Code} {f0 : (Nat → Nat) × am_H} {n0 sl0 : Nat} {Q : State → Prop}
theorem am_t_dup {len : Nat} {w : Int32} {a b c9 t i : Nat} {tb : List (Int32 × Nat)} {r9 : List am_V} (hG : am_G y p R s m args meth c) (hC : am_Cx D aC xa uv X XL z s s.heap) (hR : am_RowAt y pc (.dup, len, w, a, b, c9, tb)) (hK : am_Wat D aC xa uv z p l e R s m args below meth c f0 n0 sl0 Q y (pc + 1) ls (av_r t i :: av_r t i :: r9) σ) : am_Wat D aC xa uv z p l e R s m args below meth c f0 n0 sl0 Q y pc ls (av_r t i :: r9) σ := fun H locs lsA f hF => by
  obtain ⟨hx, hb, hml, hlk, hts, q0, hq0, hrt, hown, hnm, hfr, hlc, htab⟩ := hG
  obtain ⟨hdg, q, hq, hchk⟩ := hR
  have hgs := hF.2.2.2.2.2.1
  simp only [am_rchk, Bool.and_eq_true, decide_eq_true_eq] at hchk
  dsimp only at hdg
  cases Nat.eq_of_beq_eq_true hchk
  exact lv_dup hx hb hdg (am_cat1 xa uv hC.2.2.2.2.1 rfl) (hK H locs lsA f (am_Fc_st D aC xa uv z hF (am_gl.c hgs.h hgs)))
theorem am_t_iconst {len : Nat} {w : Int32} {a b c9 : Nat} {tb : List (Int32 × Nat)} {k9 : Int} (hG : am_G y p R s m args meth c) (hC : am_Cx D aC xa uv X XL z s s.heap) (hR : am_RowAt y pc (.iconst k9, len, w, a, b, c9, tb)) (hK : am_Wat D aC xa uv z p l e R s m args below meth c f0 n0 sl0 Q y (pc + 1) ls (av_i w :: st) σ) : am_Wat D aC xa uv z p l e R s m args below meth c f0 n0 sl0 Q y pc ls st σ := fun H locs lsA f hF => by
  obtain ⟨hx, hb, hml, hlk, hts, q0, hq0, hrt, hown, hnm, hfr, hlc, htab⟩ := hG
  obtain ⟨hdg, q, hq, hchk⟩ := hR
  have hgs := hF.2.2.2.2.2.1
  simp only [am_rchk, Bool.and_eq_true, decide_eq_true_eq] at hchk
  dsimp only at hdg
  obtain ⟨e1, e2⟩ := hchk
  cases Nat.eq_of_beq_eq_true e1
  exact lv_iconst hx hb hdg e2 (hK H locs lsA f (am_Fc_st D aC xa uv z hF (am_gl.c trivial hgs)))
theorem am_t_istore {len : Nat} {w : Int32} {a b c9 : Nat} {tb : List (Int32 × Nat)} {k9 : Fin 4} {x : Int32} {r9 : List am_V} (hG : am_G y p R s m args meth c) (hC : am_Cx D aC xa uv X XL z s s.heap) (hR : am_RowAt y pc (.istore_n k9, len, w, a, b, c9, tb)) (hlt : k9.val < ls.length) (hK : am_Wat D aC xa uv z p l e R s m args below meth c f0 n0 sl0 Q y (pc + 1) (ls.set k9.val (av_i x)) r9 σ) : am_Wat D aC xa uv z p l e R s m args below meth c f0 n0 sl0 Q y pc ls (av_i x :: r9) σ := fun H locs lsA f hF => by
  obtain ⟨hx, hb, hml, hlk, hts, q0, hq0, hrt, hown, hnm, hfr, hlc, htab⟩ := hG
  obtain ⟨hdg, q, hq, hchk⟩ := hR
  have hgs := hF.2.2.2.2.2.1
  simp only [am_rchk, Bool.and_eq_true, decide_eq_true_eq] at hchk
  dsimp only at hdg
  obtain ⟨e1, e2⟩ := hchk
  cases Nat.eq_of_beq_eq_true e1
  obtain ⟨a1, a2, a3, a4, a5, a6, a7, a8, a9⟩ := hF
  exact lv_istore_n hx hb hdg rfl (am_ls_has xa uv a3) hlt rfl (fun lsB hlB => hK H locs lsB f ⟨a1, a2, am_ls_put xa uv (v := .inl x) hC.2.2.2.2.1 hlt hlB, List.length_set.trans a4, a5.set trivial, hgs.t, a7, a8, a9⟩)
theorem am_t_astore {len : Nat} {w : Int32} {a b c9 t i : Nat} {tb : List (Int32 × Nat)} {k9 : Fin 4} {r9 : List am_V} (ht : t < 200) (hG : am_G y p R s m args meth c) (hC : am_Cx D aC xa uv X XL z s s.heap) (hR : am_RowAt y pc (.astore_n k9, len, w, a, b, c9, tb)) (hlt : k9.val < ls.length) (hK : am_Wat D aC xa uv z p l e R s m args below meth c f0 n0 sl0 Q y (pc + 1) (ls.set k9.val (av_r t i)) r9 σ) : am_Wat D aC xa uv z p l e R s m args below meth c f0 n0 sl0 Q y pc ls (av_r t i :: r9) σ := fun H locs lsA f hF => by
  obtain ⟨hx, hb, hml, hlk, hts, q0, hq0, hrt, hown, hnm, hfr, hlc, htab⟩ := hG
  obtain ⟨hdg, q, hq, hchk⟩ := hR
  have hgs := hF.2.2.2.2.2.1
  simp only [am_rchk, Bool.and_eq_true, decide_eq_true_eq] at hchk
  dsimp only at hdg
  obtain ⟨e1, e2⟩ := hchk
  cases Nat.eq_of_beq_eq_true e1
  obtain ⟨a1, a2, a3, a4, a5, a6, a7, a8, a9⟩ := hF
  have ev : am_cv xa uv f σ (av_r t i) = .ref (f (ah_ad σ t i)) := am_cvr ht
  show W p l e R s m args below meth c H locs _ _ _ (F0 m pc lsA (am_cv xa uv f σ (av_r t i) :: r9.map (am_cv xa uv f σ)))
  rw [ev]
  exact lv_astore_n hx hb hdg rfl (am_ls_has xa uv a3) hlt rfl (fun lsB hlB => hK H locs lsB f ⟨a1, a2, am_ls_put xa uv (v := av_r t i) hC.2.2.2.2.1 hlt (by rw [ev]; exact hlB), List.length_set.trans a4, a5.set hgs.h, hgs.t, a7, a8, a9⟩)
theorem am_t_new {len : Nat} {w : Int32} {a b c9 : Nat} {tb : List (Int32 × Nat)} {k9 : Nat} (hG : am_G y p R s m args meth c) (hC : am_Cx D aC xa uv X XL z s s.heap) (hR : am_RowAt y pc (.new k9, len, w, a, b, c9, tb)) (hr1 : ah_n σ + 1 - n0 ≤ R.cells) (hr2 : ah_sl σ + b - sl0 ≤ R.slots) (hK : am_Wat D aC xa uv z p l e R s m args below meth c f0 n0 sl0 Q y (pc + 3) ls (av_r a (am_cnt σ a) :: st) (am_mk σ a b)) : am_Wat D aC xa uv z p l e R s m args below meth c f0 n0 sl0 Q y pc ls st σ := fun H locs lsA f hF => by
  obtain ⟨hx, hb, hml, hlk, hts, q0, hq0, hrt, hown, hnm, hfr, hlc, htab⟩ := hG
  obtain ⟨hdg, q, hq, hchk⟩ := hR
  cases hq0.symm.trans hq
  have hgs := hF.2.2.2.2.2.1
  simp only [am_rchk, Bool.and_eq_true, decide_eq_true_eq] at hchk
  dsimp only at hdg
  obtain ⟨⟨e1, e1b⟩, e2⟩ := hchk
  cases Nat.eq_of_beq_eq_true e1
  have e1b := Nat.eq_of_beq_eq_true e1b
  obtain ⟨⟨o', k', a', pos⟩, hq9, e3⟩ := List.any_eq_true.mp e2
  simp only [Bool.and_eq_true] at e3
  obtain ⟨⟨e3, e4⟩, e5⟩ := e3
  cases Nat.eq_of_beq_eq_true e3
  cases Nat.eq_of_beq_eq_true e4
  cases Nat.eq_of_beq_eq_true e5
  have e6 := List.all_eq_true.mp am_nt_ok _ hq9
  simp only [Bool.and_eq_true, decide_eq_true_eq] at e6
  have ht := am_blt' e6.1
  obtain ⟨C, T, N, hv⟩ := am_cl_some ht
  obtain ⟨hin, hCo, hN, hinst, hini, hkd⟩ := am_cl_spec ht hv
  obtain ⟨hnames, htys⟩ := am_cl_names ht hv
  have hlink := hts _ (am_T_of e6.2 rfl)
  rw [← hCo] at hlink
  have ha8 := hF.2.2.2.2.2.2.2.1
  have ha9 := hF.2.2.2.2.2.2.2.2
  refine va_new (fs := (List.range (am_nf a)).map (fun j => bif Nat.beq (am_fk a j) 1 then Value.null else .int 0)) hx hb hts hin (am_ty a) htys hown hlink (hts _ hinst) (hts _ hini) hC.1 hF.1.1 hF.1.2.1 hF.2.1 (fun q9 h9 => Nat.le_trans hC.2.2.2.1 h9) hv ?_ (by omega) (by omega) hdg (fun q9 H1 hP hD hS => ?_)
  · intro j hj
    have h9 := hkd j hj
    have hj2 : j < am_nf a := by omega
    show _ = ((List.range (am_nf a)).map (fun j => bif Nat.beq (am_fk a j) 1 then Value.null else .int 0)).getD j .null
    rw [List.getD_eq_getElem?_getD]
    simp only [List.getElem?_map, List.getElem?_range hj2, Option.map_some, Option.getD_some]
    revert h9
    cases am_ty a j <;> intro h9 <;> first | (rw [show am_fk a j = _ from h9]; rfl) | exact absurd h9 id
  · have hce := am_ce_newo (aC := aC) (xa := xa) (uv := uv) (f := f) (σ := σ) (k := b) (a9 := q9) ht
    rw [← hce] at hP hD
    rw [show N = b by omega]
    obtain ⟨a1, a2, a3, a4, a5, a6, a7, a8, a9'⟩ := hF
    have hwf := a1.2.2
    have ht2 : a < 200 := by omega
    have e1 : ah_n σ - n0 + 1 = ah_n (am_mk σ a b) - n0 := by show _ = ah_n σ + 1 - n0; omega
    have e2 : ah_sl σ - sl0 + b = ah_sl (am_mk σ a b) - sl0 := by show _ = ah_sl σ + b - sl0; omega
    obtain ⟨hgn, hadn⟩ := am_gq_new (σ := σ) (t := a) (n := b) ht2
    have e3 : (Value.ref q9 :: st.map (am_cv xa uv f σ)) = (av_r a (am_cnt σ a) :: st).map (am_cv xa uv (am_u f (ah_n σ) q9) (am_mk σ a b)) := by
      rw [List.map_cons, am_cvr ht2, hadn, am_u, if_pos rfl]
      congr 1
      exact List.map_congr_left fun v hv => (am_cv_mk xa uv hwf (hgs v hv)).symm
    rw [e1, e2, e3]
    refine hK H1 _ lsA (am_u f (ah_n σ) q9) ⟨⟨by rw [am_ws_mk aC xa uv hwf]; exact hP, by rw [am_ws_mk aC xa uv hwf]; exact hD, am_wf_mk hwf (Or.inl ht)⟩, hS, am_ls_cong xa uv (fun v hv => am_cv_mk xa uv hwf (a5 v hv)) a3, a4, a5.mk hwf, am_gl.c hgn (hgs.mk hwf), ⟨am_ex_tr a7.1 (am_ex_mk hwf a b), fun k9 hk9 => ?_⟩, ?_, ?_⟩
    · rw [am_u, if_neg (by omega)]; exact a7.2 k9 hk9
    · show n0 ≤ ah_n σ + 1; omega
    · show sl0 ≤ ah_sl σ + b; omega
theorem am_t_init {len : Nat} {w : Int32} {a b c9 i : Nat} {tb : List (Int32 × Nat)} {k9 : Nat} {rest : List am_V} {σ2 : am_H} (hsim : am_Sim D aC xa uv X XL z l n) (hG : am_G y p R s m args meth c) (hC : am_Cx D aC xa uv X XL z s s.heap) (hR : am_RowAt y pc (.invokespecial k9, len, w, a, b, c9, tb)) (ha9 : Nat.beq a 900 = false) (hb1 : b = 1) (hr4 : rest.length ≤ 4) (hq : am_run am_ak X XL am_code am_ml n a 0 (am_ent (am_ml a) [av_r c9 i]) [] σ = some (.inl none, σ2)) (hc1 : ah_n σ2 - n0 ≤ R.cells) (hc2 : ah_sl σ2 - sl0 ≤ R.slots)
    (hK : am_Wat D aC xa uv z p l e R s m args below meth c f0 n0 sl0 Q y (pc + 3) ls rest σ2) : am_Wat D aC xa uv z p l e R s m args below meth c f0 n0 sl0 Q y pc ls (av_r c9 i :: rest) σ := fun H locs lsA f hF => by
  have hG0 := hG
  obtain ⟨hx, hb, hml, hlk, hts, q0, hq0, hrt, hown, hnm, hfr, hlc, htab⟩ := hG
  obtain ⟨hdg, qq, hqq, hchk⟩ := hR
  cases hq0.symm.trans hqq
  have hgs := hF.2.2.2.2.2.1
  simp only [am_rchk, Bool.and_eq_true, decide_eq_true_eq] at hchk
  dsimp only at hdg
  obtain ⟨⟨e1, ehd⟩, e2⟩ := hchk
  cases Nat.eq_of_beq_eq_true e1
  simp only [ha9, cond_true, cond_false] at e2
  obtain ⟨ha, ⟨hh, pos, hl⟩, ⟨sg, hsg1, hsg2⟩, hmk, -, hv2, -, hbml, hfr2, hlc2⟩ := am_ca_spec e2
  obtain ⟨hc9, hbb⟩ := hv2 (by omega)
  obtain ⟨nm, mx, rt, o9, fr9, lc9, hd9, k8, g1, g2, g3, -, g5, g6, -, g7, g8, -, g9, -⟩ := am_md_spec ha
  have hnm9 : am_nm a = nm := by unfold am_nm; rw [g1]; rfl
  have hk8 : k8 = 2 := g2.symm.trans hmk
  obtain ⟨hi1, hi2, hi3⟩ := g9 hk8
  have hcode : Cond.code nm (am_by a) mx none ∈ am_T := by
    rcases g7 with g7 | g7
    · rw [hi3] at g7; exact g7.2
    · omega
  have hga : am_gl σ [av_r c9 i] := am_gl.c hgs.h (fun _ h9 => by cases h9)
  have hgr : am_gl σ rest := hgs.t
  have hE : am_Ent p l e R s m args below meth c H locs (ah_n σ - n0) (ah_sl σ - sl0) (F0 m pc lsA ((av_r c9 i :: rest).map (am_cv xa uv f σ))) (am_nm a) (([av_r c9 i]).map (am_cv xa uv f σ)).toArray (rest.map (am_cv xa uv f σ)) := by
    have hst : (av_r c9 i :: rest).map (am_cv xa uv f σ) = (([] : List am_V).map (am_cv xa uv f σ)).reverse ++ .ref (f (ah_ad σ c9 i)) :: rest.map (am_cv xa uv f σ) := by
      rw [List.map_cons, am_cvr (show c9 < 200 by omega)]
      rfl
    have hag : ([av_r c9 i]).map (am_cv xa uv f σ) = .ref (f (ah_ad σ c9 i)) :: ([] : List am_V).map (am_cv xa uv f σ) := by
      rw [List.map_cons, am_cvr (show c9 < 200 by omega)]
    have hl5 : ([] : List am_V).length = sg.parameters.length := by
      show 0 = _
      omega
    rw [hst, hag, hnm9]
    rw [hnm9] at hl hsg1
    cases hb0 : Nat.beq hh 0 <;> simp only [hb0, cond_true, cond_false] at hl
    · exact am_entIN hx hown hi2 (va_Nw.use rfl (hC.2.2.2.2.2.1 _ (List.mem_filter.mpr ⟨List.mem_of_getElem? hl, rfl⟩))) (hts _ hi1) (hts _ hcode) g6 rfl (fun sig h9 => by rw [hsg1] at h9; cases h9; rw [List.length_map]; exact hl5) rfl (by rw [hb]; exact hdg)
    · exact am_entI hx hown hi2 (hts _ (am_T_of hl rfl)) (hts _ hi1) (hts _ hcode) g6 rfl (fun sig h9 => by rw [hsg1] at h9; cases h9; rw [List.length_map]; exact hl5) rfl (by rw [hb]; exact hdg)
  have hM := am_metOf hsim ha hq f rfl (by show 1 ≤ _; omega)
  have hle := am_le_run am_ak X XL am_code am_ml _ _ _ _ _ _ _ hq
  have hle1 : ah_n σ ≤ ah_n σ2 := hle.1
  have hle2 : ah_sl σ ≤ ah_sl σ2 := hle.2
  have a8 := hF.2.2.2.2.2.2.2.1
  have a9 := hF.2.2.2.2.2.2.2.2
  have hfr9 : am_fr a + 1 ≤ R.frames := by omega
  have hlc9 : 8 + (am_ml a + 11) + am_lc a ≤ R.locals := by omega
  refine am_callW (A0 := fun _ => True) (H0 := H) (maxL := am_ml a) (nL := am_ml y) hE hM am_Pc_blind rfl rfl hfr9 hlc9 (am_hws hts) ?_ ?_ hml (hF.2.2.1.1.trans hF.2.2.2.1) (am_wt hr4) ⟨by show _ + (ah_n σ2 - ah_n σ) ≤ _; omega, by show _ + (ah_sl σ2 - ah_sl σ) ≤ _; omega⟩ ?_ ?_
  · intro U mk hW hn
    rw [hnm9] at hn
    obtain ⟨meth9, c9, f1, f2, -, f4, -⟩ := am_his ha g1 (fun w hw => am_hws hts w hw #[] U hW) hn
    exact ⟨meth9, c9, f1, f2, f4⟩
  · intro a' U hW
    rw [hnm9]
    exact am_hws hts _ g8 a' U hW
  · intro U hU hW
    have hS := hF.2.1
    refine ⟨rfl, am_Cx_to D aC xa uv X XL z hW (fun x hx9 => ?_) ?_ hC, by rw [hU]; exact hF.1, hga⟩
    · rw [hU]; exact hS.2.1 x (Nat.lt_of_lt_of_le hx9 hC.2.2.2.1) (Nat.not_le.mpr hx9)
    · rw [hU]; exact Nat.le_trans hC.2.2.2.1 hS.1
  · intro o st₀ t H1 L hst0 ht hal hQ hL
    obtain ⟨⟨f', ⟨hex, hff⟩, hHr, hoc⟩, hFr⟩ := hQ
    have hex : am_ex σ σ2 := hex
    have hff : ∀ k, k < ah_n σ → f' k = f k := hff
    have ec : ah_n σ - n0 + (ah_n σ2 - ah_n σ) = ah_n σ2 - n0 := by omega
    have es : ah_sl σ - sl0 + (ah_sl σ2 - ah_sl σ) = ah_sl σ2 - sl0 := by omega
    have hrest : rest.map (am_cv xa uv f σ) = rest.map (am_cv xa uv f' σ2) := List.map_congr_left fun v hv => (am_cv_ex xa uv hex hff (hgr v hv)).symm
    have hgr2 : am_gl σ2 rest := fun v hv => am_gv_ex hex (hgr v hv)
    have ho : o = .returned none := hoc
    subst ho
    show W p l e R s m args below meth c H1 (locs ++ L) (ah_n σ - n0 + (ah_n σ2 - ah_n σ)) (ah_sl σ - sl0 + (ah_sl σ2 - ah_sl σ)) _ _
    rw [ec, es, hrest]
    exact hK H1 (locs ++ L) lsA f' (am_aftFc (q := (.inl none, σ2)) hF hex hff hHr hFr hst0 ht hL hle hgr2)
end Prel
