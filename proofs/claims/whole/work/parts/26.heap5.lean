section AmHeap5
variable {D : va_G} {aC : Nat → ClassId} {xa : Nat → Nat} {uv : Nat → Value} {X : Nat → Nat → Int32} {XL : Nat → Nat} {z : Nat}
variable {l : Launch} {n y pc : Nat} {ls st : List am_V} {σ : am_H} {r : am_O × am_H} {p : Program} {e : Env} {R : Room} {s : State} {m : MethodId} {args : Array Value} {below : List Frame} {meth : Method} {c : Code} {H : Heap} {locs : List Loc} {lsA : Array Slot} {f : Nat → Nat} {f0 : (Nat → Nat) × am_H} {n0 sl0 : Nat}
theorem am_ce_newo {t k a9 : Nat} (ht : t < 14) : am_ce aC xa uv (am_u f (ah_n σ) a9) (am_mk σ t k) (t, am_cnt σ t) = .inr (t, (List.range (am_nf t)).map (fun j => bif Nat.beq (am_fk t j) 1 then Value.null else .int 0)) := by
  unfold am_ce
  simp only [am_blt (show t < 16 by omega), cond_true]
  congr 2
  refine List.map_congr_left fun j _ => ?_
  unfold am_fv
  show (bif Nat.beq (am_fk t j) 1 then am_cv xa uv _ _ (.inr (.inr (am_c (ah_R σ) t (am_cnt σ t) (fun _ => none) t (am_cnt σ t) j))) else .int (am_c (ah_I σ) t (am_cnt σ t) (fun _ => 0) t (am_cnt σ t) j)) = _
  rw [am_c, if_pos ⟨rfl, rfl⟩, am_c, if_pos ⟨rfl, rfl⟩]
  rfl
theorem am_ce_newa {t k a9 : Nat} (h16 : 16 ≤ t) (hk : am_ak t < 3) : am_ce aC xa uv (am_u f (ah_n σ) a9) (am_mk σ t k) (t, am_cnt σ t) = .inl (aC (am_ak t), k, .inl (fun _ => 0)) := by
  unfold am_ce
  have h1 : Nat.blt t 16 = false := by
    cases hb : Nat.blt t 16
    · rfl
    · have := am_blt' hb; omega
  simp only [h1, cond_false, am_blt hk, cond_true]
  show Sum.inl (aC (am_ak t), am_c (ah_ln σ) t (am_cnt σ t) k t (am_cnt σ t), Sum.inl (am_c (ah_I σ) t (am_cnt σ t) (fun _ => 0) t (am_cnt σ t))) = _
  rw [am_c, if_pos ⟨rfl, rfl⟩, am_c, if_pos ⟨rfl, rfl⟩]
theorem am_ce_newq {t k a9 : Nat} (h16 : 16 ≤ t) (hk : am_ak t = 3 ∨ am_ak t = 4) : am_ce aC xa uv (am_u f (ah_n σ) a9) (am_mk σ t k) (t, am_cnt σ t) = .inl (aC (am_ak t), k, .inr (.inr (.inr (.inr (fun _ => none))))) := by
  unfold am_ce
  have h1 : Nat.blt t 16 = false := by
    cases hb : Nat.blt t 16
    · rfl
    · have := am_blt' hb; omega
  have h3 : Nat.blt (am_ak t) 3 = false := by
    cases hb : Nat.blt (am_ak t) 3
    · rfl
    · have := am_blt' hb; omega
  simp only [h1, cond_false, h3]
  have hfun : (fun j => Option.map (fun r : Nat × Nat => am_u f (ah_n σ) a9 (ah_ad (am_mk σ t k) r.1 r.2)) (ah_R (am_mk σ t k) t (am_cnt σ t) j)) = (fun _ => none) := by
    funext j
    show Option.map _ (am_c (ah_R σ) t (am_cnt σ t) (fun _ => none) t (am_cnt σ t) j) = none
    rw [am_c, if_pos ⟨rfl, rfl⟩]
    rfl
  rw [hfun]
  show Sum.inl (aC (am_ak t), am_c (ah_ln σ) t (am_cnt σ t) k t (am_cnt σ t), _) = _
  rw [am_c, if_pos ⟨rfl, rfl⟩]
/-- an array type has one number -/
theorem am_cA {ty : FieldType} {cA cB : ClassId} (h1 : va_RA s cA ty) (h2 : va_RA s cB ty) : cA = cB := by
  cases ty with
  | object C =>
    obtain ⟨_, _, _, _, _, h3⟩ := h1
    obtain ⟨_, _, _, _, _, h4⟩ := h2
    exact Option.some.inj (h3.symm.trans h4)
  | _ => exact Option.some.inj ((show s.vm.findClass _ = some cA from h1).symm.trans (show s.vm.findClass _ = some cB from h2))
theorem am_s_new {len : Nat} {w : Int32} {a b c9 : Nat} {tb : List (Int32 × Nat)} {k9 : Nat} (h : am_Hyp D aC xa uv X XL z l n y pc ls st σ r (.new k9, len, w, a, b, c9, tb) p R s m args meth c H locs lsA f f0 n0 sl0) : W p l e R s m args below meth c H locs (ah_n σ - n0) (ah_sl σ - sl0) (am_MQ below (am_Q D aC xa uv z f0 n0 r) args s (ah_n r.2 - n0) (ah_sl r.2 - sl0) (am_A z)) (F0 m pc lsA (st.map (am_cv xa uv f σ))) := by
  have h0 := h
  obtain ⟨ih, hy, ⟨hx, hb, hml, hlk, hts, q0, hq0, hrt, hown, hnm, hfr, hlc, htab⟩, hC, hF, hc1, hc2, hdg, ⟨q, hq, hchk⟩, hrun⟩ := h
  cases hq0.symm.trans hq
  have hgs := hF.2.2.2.2.2.1
  simp only [am_step] at hrun
  simp only [am_rchk, Bool.and_eq_true, decide_eq_true_eq] at hchk
  dsimp only at hdg
  obtain ⟨⟨e1, e1b⟩, e2⟩ := hchk
  cases Nat.eq_of_beq_eq_true e1
  have e1b := Nat.eq_of_beq_eq_true e1b
  obtain ⟨⟨o', k', a', pos⟩, hq9, e3⟩ := List.any_eq_true.mp e2
  simp only [Bool.and_eq_true] at e3
  obtain ⟨⟨e3, e4⟩, e5⟩ := e3
  cases Nat.eq_of_beq_eq_true e3
  cases Nat.eq_of_beq_eq_true e4
  cases Nat.eq_of_beq_eq_true e5
  have e6 := List.all_eq_true.mp am_nt_ok _ hq9
  simp only [Bool.and_eq_true, decide_eq_true_eq] at e6
  have ht := am_blt' e6.1
  obtain ⟨C, T, N, hv⟩ := am_cl_some ht
  obtain ⟨hin, hCo, hN, hinst, hini, hkd⟩ := am_cl_spec ht hv
  obtain ⟨hnames, htys⟩ := am_cl_names ht hv
  have hlink := hts _ (am_T_of e6.2 rfl)
  rw [← hCo] at hlink
  have hle := am_le_run am_ak X XL am_code am_ml _ _ _ _ _ _ _ hrun
  have hle1 : ah_n σ + 1 ≤ ah_n r.2 := hle.1
  have hle2 : ah_sl σ + b ≤ ah_sl r.2 := hle.2
  have ha8 := hF.2.2.2.2.2.2.2.1
  have ha9 := hF.2.2.2.2.2.2.2.2
  refine va_new (fs := (List.range (am_nf a)).map (fun j => bif Nat.beq (am_fk a j) 1 then Value.null else .int 0)) hx hb hts hin (am_ty a) htys hown hlink (hts _ hinst) (hts _ hini) hC.1 hF.1.1 hF.1.2.1 hF.2.1 (fun q9 h9 => Nat.le_trans hC.2.2.2.1 h9) hv ?_ (by omega) (by omega) hdg (fun q9 H1 hP hD hS => ?_)
  · intro j hj
    have h9 := hkd j hj
    have hj2 : j < am_nf a := by omega
    show _ = ((List.range (am_nf a)).map (fun j => bif Nat.beq (am_fk a j) 1 then Value.null else .int 0)).getD j .null
    rw [List.getD_eq_getElem?_getD]
    simp only [List.getElem?_map, List.getElem?_range hj2, Option.map_some, Option.getD_some]
    revert h9
    cases am_ty a j <;> intro h9 <;> first | (rw [show am_fk a j = _ from h9]; rfl) | exact absurd h9 id
  · have hce := am_ce_newo (aC := aC) (xa := xa) (uv := uv) (f := f) (σ := σ) (k := b) (a9 := q9) ht
    rw [← hce] at hP hD
    rw [show N = b by omega]
    exact am_goM h0 hrun (Or.inl ht) hgs hP hD hS

theorem am_s_newa_int {len : Nat} {w : Int32} {a b c9 : Nat} {tb : List (Int32 × Nat)} (h : am_Hyp D aC xa uv X XL z l n y pc ls st σ r (.newarray .int, len, w, a, b, c9, tb) p R s m args meth c H locs lsA f f0 n0 sl0) : W p l e R s m args below meth c H locs (ah_n σ - n0) (ah_sl σ - sl0) (am_MQ below (am_Q D aC xa uv z f0 n0 r) args s (ah_n r.2 - n0) (ah_sl r.2 - sl0) (am_A z)) (F0 m pc lsA (st.map (am_cv xa uv f σ))) := by
  have h0 := h
  obtain ⟨ih, hy, ⟨hx, hb, hml, hlk, hts, q0, hq0, hrt, hown, hnm, hfr, hlc, htab⟩, hC, hF, hc1, hc2, hdg, ⟨q, hq, hchk⟩, hrun⟩ := h
  cases hq0.symm.trans hq
  have hgs := hF.2.2.2.2.2.1
  simp only [am_step] at hrun
  simp only [am_rchk, Bool.and_eq_true, decide_eq_true_eq] at hchk
  dsimp only at hdg
  obtain ⟨⟨⟨e1, e2⟩, e3⟩, e4⟩ := hchk
  cases Nat.eq_of_beq_eq_true e1
  have h16 := am_blt' e2
  have h200 := am_blt' e3
  have hk := Nat.eq_of_beq_eq_true e4
  split at hrun
  · rename_i k r9
    cases h2 : am_in k 20000 <;> simp only [h2, cond_true, cond_false] at hrun
    · cases hrun
    · have hin := am_inv h2
      have hk0 : ¬ k < 0 := fun h9 => hin (Or.inl h9)
      have hk1 : k.toNatClampNeg < 20000 := Nat.not_le.mp fun h9 => hin (Or.inr h9)
      have hle := am_le_run am_ak X XL am_code am_ml _ _ _ _ _ _ _ hrun
      have hle1 : ah_n σ + 1 ≤ ah_n r.2 := hle.1
      have hle2 : ah_sl σ + k.toNatClampNeg ≤ ah_sl r.2 := hle.2
      have ha8 := hF.2.2.2.2.2.2.2.1
      have ha9 := hF.2.2.2.2.2.2.2.2
      refine va_newa (atype := .int) (ty := .int) (a0 := (k.toNatClampNeg, .inl (fun _ => 0))) hx hb (hts _ am_arrI) rfl hC.1 hF.1.1 hF.1.2.1 hF.2.1 (fun q9 h9 => Nat.le_trans hC.2.2.2.1 h9) (fun cA => rfl) hk0 rfl (by show k.toNatClampNeg * 4 ≤ _; omega) (by omega) (by omega) hdg (fun q9 cA H1 hK hP hD hS => ?_)
      have hcA : cA = aC (am_ak a) := by
        rw [hk]
        exact am_cA (hK.2 5 (cA, .int) rfl).2 (hC.1.2 0 (aC 0, .int) rfl).2
      rw [hcA, ← am_ce_newa (aC := aC) (xa := xa) (uv := uv) (f := f) (σ := σ) (k := k.toNatClampNeg) (a9 := q9) (show 16 ≤ a by omega) (show am_ak a < 3 by omega)] at hP hD
      exact am_goM h0 hrun (Or.inr ⟨by omega, by omega, by omega⟩) hgs.t hP hD hS
  · cases hrun

theorem am_s_newa_byte {len : Nat} {w : Int32} {a b c9 : Nat} {tb : List (Int32 × Nat)} (h : am_Hyp D aC xa uv X XL z l n y pc ls st σ r (.newarray .byte, len, w, a, b, c9, tb) p R s m args meth c H locs lsA f f0 n0 sl0) : W p l e R s m args below meth c H locs (ah_n σ - n0) (ah_sl σ - sl0) (am_MQ below (am_Q D aC xa uv z f0 n0 r) args s (ah_n r.2 - n0) (ah_sl r.2 - sl0) (am_A z)) (F0 m pc lsA (st.map (am_cv xa uv f σ))) := by
  have h0 := h
  obtain ⟨ih, hy, ⟨hx, hb, hml, hlk, hts, q0, hq0, hrt, hown, hnm, hfr, hlc, htab⟩, hC, hF, hc1, hc2, hdg, ⟨q, hq, hchk⟩, hrun⟩ := h
  cases hq0.symm.trans hq
  have hgs := hF.2.2.2.2.2.1
  simp only [am_step] at hrun
  simp only [am_rchk, Bool.and_eq_true, decide_eq_true_eq] at hchk
  dsimp only at hdg
  obtain ⟨⟨⟨e1, e2⟩, e3⟩, e4⟩ := hchk
  cases Nat.eq_of_beq_eq_true e1
  have h16 := am_blt' e2
  have h200 := am_blt' e3
  have hk := Nat.eq_of_beq_eq_true e4
  split at hrun
  · rename_i k r9
    cases h2 : am_in k 20000 <;> simp only [h2, cond_true, cond_false] at hrun
    · cases hrun
    · have hin := am_inv h2
      have hk0 : ¬ k < 0 := fun h9 => hin (Or.inl h9)
      have hk1 : k.toNatClampNeg < 20000 := Nat.not_le.mp fun h9 => hin (Or.inr h9)
      have hle := am_le_run am_ak X XL am_code am_ml _ _ _ _ _ _ _ hrun
      have hle1 : ah_n σ + 1 ≤ ah_n r.2 := hle.1
      have hle2 : ah_sl σ + k.toNatClampNeg ≤ ah_sl r.2 := hle.2
      have ha8 := hF.2.2.2.2.2.2.2.1
      have ha9 := hF.2.2.2.2.2.2.2.2
      refine va_newa (atype := .byte) (ty := .byte) (a0 := (k.toNatClampNeg, .inl (fun _ => 0))) hx hb (hts _ am_arrB) rfl hC.1 hF.1.1 hF.1.2.1 hF.2.1 (fun q9 h9 => Nat.le_trans hC.2.2.2.1 h9) (fun cA => rfl) hk0 rfl (by show k.toNatClampNeg * 1 ≤ _; omega) (by omega) (by omega) hdg (fun q9 cA H1 hK hP hD hS => ?_)
      have hcA : cA = aC (am_ak a) := by
        rw [hk]
        exact am_cA (hK.2 5 (cA, .byte) rfl).2 (hC.1.2 1 (aC 1, .byte) rfl).2
      rw [hcA, ← am_ce_newa (aC := aC) (xa := xa) (uv := uv) (f := f) (σ := σ) (k := k.toNatClampNeg) (a9 := q9) (show 16 ≤ a by omega) (show am_ak a < 3 by omega)] at hP hD
      exact am_goM h0 hrun (Or.inr ⟨by omega, by omega, by omega⟩) hgs.t hP hD hS
  · cases hrun

theorem am_s_newa_boolean {len : Nat} {w : Int32} {a b c9 : Nat} {tb : List (Int32 × Nat)} (h : am_Hyp D aC xa uv X XL z l n y pc ls st σ r (.newarray .boolean, len, w, a, b, c9, tb) p R s m args meth c H locs lsA f f0 n0 sl0) : W p l e R s m args below meth c H locs (ah_n σ - n0) (ah_sl σ - sl0) (am_MQ below (am_Q D aC xa uv z f0 n0 r) args s (ah_n r.2 - n0) (ah_sl r.2 - sl0) (am_A z)) (F0 m pc lsA (st.map (am_cv xa uv f σ))) := by
  have h0 := h
  obtain ⟨ih, hy, ⟨hx, hb, hml, hlk, hts, q0, hq0, hrt, hown, hnm, hfr, hlc, htab⟩, hC, hF, hc1, hc2, hdg, ⟨q, hq, hchk⟩, hrun⟩ := h
  cases hq0.symm.trans hq
  have hgs := hF.2.2.2.2.2.1
  simp only [am_step] at hrun
  simp only [am_rchk, Bool.and_eq_true, decide_eq_true_eq] at hchk
  dsimp only at hdg
  obtain ⟨⟨⟨e1, e2⟩, e3⟩, e4⟩ := hchk
  cases Nat.eq_of_beq_eq_true e1
  have h16 := am_blt' e2
  have h200 := am_blt' e3
  have hk := Nat.eq_of_beq_eq_true e4
  split at hrun
  · rename_i k r9
    cases h2 : am_in k 20000 <;> simp only [h2, cond_true, cond_false] at hrun
    · cases hrun
    · have hin := am_inv h2
      have hk0 : ¬ k < 0 := fun h9 => hin (Or.inl h9)
      have hk1 : k.toNatClampNeg < 20000 := Nat.not_le.mp fun h9 => hin (Or.inr h9)
      have hle := am_le_run am_ak X XL am_code am_ml _ _ _ _ _ _ _ hrun
      have hle1 : ah_n σ + 1 ≤ ah_n r.2 := hle.1
      have hle2 : ah_sl σ + k.toNatClampNeg ≤ ah_sl r.2 := hle.2
      have ha8 := hF.2.2.2.2.2.2.2.1
      have ha9 := hF.2.2.2.2.2.2.2.2
      refine va_newa (atype := .boolean) (ty := .boolean) (a0 := (k.toNatClampNeg, .inl (fun _ => 0))) hx hb (hts _ am_arrZ) rfl hC.1 hF.1.1 hF.1.2.1 hF.2.1 (fun q9 h9 => Nat.le_trans hC.2.2.2.1 h9) (fun cA => rfl) hk0 rfl (by show k.toNatClampNeg * 1 ≤ _; omega) (by omega) (by omega) hdg (fun q9 cA H1 hK hP hD hS => ?_)
      have hcA : cA = aC (am_ak a) := by
        rw [hk]
        exact am_cA (hK.2 5 (cA, .boolean) rfl).2 (hC.1.2 2 (aC 2, .boolean) rfl).2
      rw [hcA, ← am_ce_newa (aC := aC) (xa := xa) (uv := uv) (f := f) (σ := σ) (k := k.toNatClampNeg) (a9 := q9) (show 16 ≤ a by omega) (show am_ak a < 3 by omega)] at hP hD
      exact am_goM h0 hrun (Or.inr ⟨by omega, by omega, by omega⟩) hgs.t hP hD hS
  · cases hrun

theorem am_s_anew {len : Nat} {w : Int32} {a b c9 : Nat} {tb : List (Int32 × Nat)} {k9 : Nat} (h : am_Hyp D aC xa uv X XL z l n y pc ls st σ r (.anewarray k9, len, w, a, b, c9, tb) p R s m args meth c H locs lsA f f0 n0 sl0) : W p l e R s m args below meth c H locs (ah_n σ - n0) (ah_sl σ - sl0) (am_MQ below (am_Q D aC xa uv z f0 n0 r) args s (ah_n r.2 - n0) (ah_sl r.2 - sl0) (am_A z)) (F0 m pc lsA (st.map (am_cv xa uv f σ))) := by
  have h0 := h
  obtain ⟨ih, hy, ⟨hx, hb, hml, hlk, hts, q0, hq0, hrt, hown, hnm, hfr, hlc, htab⟩, hC, hF, hc1, hc2, hdg, ⟨q, hq, hchk⟩, hrun⟩ := h
  cases hq0.symm.trans hq
  have hgs := hF.2.2.2.2.2.1
  simp only [am_step] at hrun
  simp only [am_rchk, Bool.and_eq_true, decide_eq_true_eq] at hchk
  dsimp only at hdg
  obtain ⟨⟨⟨e1, e2⟩, e3⟩, e4⟩ := hchk
  cases Nat.eq_of_beq_eq_true e1
  have h16 := am_blt' e2
  have h200 := am_blt' e3
  obtain ⟨⟨o', k', a', pos⟩, hq9, g3⟩ := List.any_eq_true.mp e4
  simp only [Bool.and_eq_true] at g3
  obtain ⟨⟨g3, g4⟩, g5⟩ := g3
  cases Nat.eq_of_beq_eq_true g3
  cases Nat.eq_of_beq_eq_true g4
  have g5 := Nat.eq_of_beq_eq_true g5
  subst g5
  have g6 := List.all_eq_true.mp am_at_ok _ hq9
  simp only [Bool.and_eq_true, Bool.or_eq_true, decide_eq_true_eq] at g6
  obtain ⟨hk, g7⟩ := g6
  split at hrun
  · rename_i k r9
    cases h2 : am_in k 20000 <;> simp only [h2, cond_true, cond_false] at hrun
    · cases hrun
    · have hin := am_inv h2
      have hk0 : ¬ k < 0 := fun h9 => hin (Or.inl h9)
      have hk1 : k.toNatClampNeg < 20000 := Nat.not_le.mp fun h9 => hin (Or.inr h9)
      have hle := am_le_run am_ak X XL am_code am_ml _ _ _ _ _ _ _ hrun
      have hle1 : ah_n σ + 1 ≤ ah_n r.2 := hle.1
      have hle2 : ah_sl σ + k.toNatClampNeg ≤ ah_sl r.2 := hle.2
      have ha8 := hF.2.2.2.2.2.2.2.1
      have ha9 := hF.2.2.2.2.2.2.2.2
      have hlink := hts _ (am_T_of g7 rfl)
      rcases hk with hk | hk
      · have hkk := Nat.eq_of_beq_eq_true hk
        rw [hk] at hlink
        refine va_newq (C := "BrotliWords$Code") hx hb hown hlink hC.2.2.2.2.2.2.1 hC.1 hF.1.1 hF.1.2.1 hF.2.1 (fun q9 h9 => Nat.le_trans hC.2.2.2.1 h9) hk0 rfl (by omega) (by omega) (by omega) hdg (fun q9 cA H1 hK hP hD hS => ?_)
        have hcA : cA = aC (am_ak a) := by
          rw [hkk]
          exact am_cA (hK.2 5 (cA, .object "BrotliWords$Code") rfl).2 (hC.1.2 3 (aC 3, .object "BrotliWords$Code") rfl).2
        rw [hcA, ← am_ce_newq (aC := aC) (xa := xa) (uv := uv) (f := f) (σ := σ) (k := k.toNatClampNeg) (a9 := q9) (show 16 ≤ a by omega) (Or.inl hkk)] at hP hD
        exact am_goM h0 hrun (Or.inr ⟨by omega, by omega, by omega⟩) hgs.t hP hD hS
      · have hkk := Nat.eq_of_beq_eq_true hk
        rw [show Nat.beq (am_ak a) 3 = false by rw [hkk]; rfl] at hlink
        refine va_newq (C := "BrotliWords$Blocks") hx hb hown hlink hC.2.2.2.2.2.2.2 hC.1 hF.1.1 hF.1.2.1 hF.2.1 (fun q9 h9 => Nat.le_trans hC.2.2.2.1 h9) hk0 rfl (by omega) (by omega) (by omega) hdg (fun q9 cA H1 hK hP hD hS => ?_)
        have hcA : cA = aC (am_ak a) := by
          rw [hkk]
          exact am_cA (hK.2 5 (cA, .object "BrotliWords$Blocks") rfl).2 (hC.1.2 4 (aC 4, .object "BrotliWords$Blocks") rfl).2
        rw [hcA, ← am_ce_newq (aC := aC) (xa := xa) (uv := uv) (f := f) (σ := σ) (k := k.toNatClampNeg) (a9 := q9) (show 16 ≤ a by omega) (Or.inr hkk)] at hP hD
        exact am_goM h0 hrun (Or.inr ⟨by omega, by omega, by omega⟩) hgs.t hP hD hS
  · cases hrun

end AmHeap5
