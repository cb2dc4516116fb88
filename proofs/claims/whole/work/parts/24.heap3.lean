section AmHeap3
variable {D : va_G} {aC : Nat → ClassId} {xa : Nat → Nat} {uv : Nat → Value} {X : Nat → Nat → Int32} {XL : Nat → Nat} {z : Nat}
variable {l : Launch} {n y pc : Nat} {ls st : List am_V} {σ : am_H} {r : am_O × am_H} {p : Program} {e : Env} {R : Room} {s : State} {m : MethodId} {args : Array Value} {below : List Frame} {meth : Method} {c : Code} {H : Heap} {locs : List Loc} {lsA : Array Slot} {f : Nat → Nat} {f0 : (Nat → Nat) × am_H} {n0 sl0 : Nat}
theorem am_gR {t i : Nat} (hH : am_Hr D aC xa uv z f σ H) (hg : am_gq σ (t, i)) (ht : t < 200) (j : Nat) : am_gv σ (.inr (.inr (ah_R σ t i j))) := by
  cases hr : ah_R σ t i j with
  | none => trivial
  | some r9 =>
    rcases hg with hg | ⟨-, h1, h2⟩
    · exact absurd ht (Nat.not_lt.mpr hg.1)
    · exact ((hH.2.2 _ h1).2.2.2.2 j r9 (by rw [h2]; exact hr)).1
theorem am_gR2 {t i : Nat} (hH : am_Hr D aC xa uv z f σ H) (hg : am_gq σ (t, i)) (ht : t < 200) (h16 : 16 ≤ t) {j : Nat} {r9 : Nat × Nat} (hr : ah_R σ t i j = some r9) : r9.1 < 200 := by
  rcases hg with hg | ⟨-, h1, h2⟩
  · exact absurd ht (Nat.not_lt.mpr hg.1)
  · exact ((hH.2.2 _ h1).2.2.2.2 j r9 (by rw [h2]; exact hr)).2 (by rw [h2]; exact h16)
theorem am_16 {t : Nat} (hk : am_ak t ≠ 9) : 16 ≤ t := by
  rcases Nat.lt_or_ge t 16 with h | h
  · exact absurd (am_ak_obj h) hk
  · exact h
theorem am_Hr_arq {t i j : Nat} {x : Nat × Nat} {H1 : Heap} (hH : am_Hr D aC xa uv z f σ H) (hg : am_gq σ (t, i)) (ht : t < 200) (hk : am_ak t = 3 ∨ am_ak t = 4) (hx : am_gq σ x) (hx2 : x.1 < 200)
    (hP : va_P D vwCl ((am_ws aC xa uv f σ).set (ah_ad σ t i) (f (ah_ad σ t i), .inl (aC (am_ak t), ah_ln σ t i, .inr (.inr (.inr (.inr (va_up (fun j => (ah_R σ t i j).map (fun r => f (ah_ad σ r.1 r.2))) j (some (f (ah_ad σ x.1 x.2)))))))))) H1)
    (hD : va_D (am_A z) ((am_ws aC xa uv f σ).set (ah_ad σ t i) (f (ah_ad σ t i), .inl (aC (am_ak t), ah_ln σ t i, .inr (.inr (.inr (.inr (va_up (fun j => (ah_R σ t i j).map (fun r => f (ah_ad σ r.1 r.2))) j (some (f (ah_ad σ x.1 x.2))))))))))) : am_Hr D aC xa uv z f (am_sR σ t i j (some x)) H1 := by
  have h16 : Nat.blt t 16 = false := by
    cases hb : Nat.blt t 16
    · rfl
    · rw [am_ak_obj (am_blt' hb)] at hk; omega
  have h3 : Nat.blt (am_ak t) 3 = false := by
    cases hb : Nat.blt (am_ak t) 3
    · rfl
    · have := am_blt' hb; omega
  have e1 : am_ws aC xa uv f (am_sR σ t i j (some x)) = (am_ws aC xa uv f σ).set (ah_ad σ t i) (f (ah_ad σ t i), .inl (aC (am_ak t), ah_ln σ t i, .inr (.inr (.inr (.inr (va_up (fun j => (ah_R σ t i j).map (fun r => f (ah_ad σ r.1 r.2))) j (some (f (ah_ad σ x.1 x.2))))))))) := by
    rw [am_ws_set aC xa uv (σ' := am_sR σ t i j (some x)) hH.2.2 hg ht rfl (fun _ _ _ => rfl) (fun t' i' hne => by show am_c σ.2.2 t i _ t' i' = _; rw [am_c, if_neg hne])]
    have e2 : am_ce aC xa uv f (am_sR σ t i j (some x)) (t, i) = .inl (aC (am_ak t), ah_ln σ t i, .inr (.inr (.inr (.inr (va_up (fun j => (ah_R σ t i j).map (fun r => f (ah_ad σ r.1 r.2))) j (some (f (ah_ad σ x.1 x.2)))))))) := by
      unfold am_ce
      simp only [h16, cond_false, h3]
      have hfun : (fun j' => Option.map (fun r : Nat × Nat => f (ah_ad (am_sR σ t i j (some x)) r.1 r.2)) (ah_R (am_sR σ t i j (some x)) t i j')) = va_up (fun j => (ah_R σ t i j).map (fun r => f (ah_ad σ r.1 r.2))) j (some (f (ah_ad σ x.1 x.2))) := by
        funext j'
        show Option.map (fun r : Nat × Nat => f (ah_ad σ r.1 r.2)) (am_c σ.2.2 t i (am_u (σ.2.2 t i) j (some x)) t i j') = _
        rw [am_c, if_pos ⟨rfl, rfl⟩, am_u, va_up]
        by_cases hj : j' = j
        · rw [if_pos hj, if_pos hj]; rfl
        · rw [if_neg hj, if_neg hj]
      rw [hfun]
      rfl
    rw [e2]
  exact ⟨by rw [e1]; exact hP, by rw [e1]; exact hD, am_wf_R hH.2.2 (fun r9 hr9 => by cases hr9; exact ⟨hx, fun _ => hx2⟩)⟩
/-- a field of an object of ours gets a value: v what the cell holds then -/
theorem am_Hr_obj {t i j : Nat} {σ' : am_H} {v : Value} {H1 : Heap} (hH : am_Hr D aC xa uv z f σ H) (hg : am_gq σ (t, i)) (ht : t < 14) (hwf : am_wf σ') (hb : σ'.1 = σ.1) (hI : ∀ t' i', ¬ (t' = t ∧ i' = i) → ah_I σ' t' i' = ah_I σ t' i') (hR : ∀ t' i', ¬ (t' = t ∧ i' = i) → ah_R σ' t' i' = ah_R σ t' i')
    (hv : am_fv xa uv f σ' t i j = v) (hne : ∀ j', j' ≠ j → am_fv xa uv f σ' t i j' = am_fv xa uv f σ t i j')
    (hP : va_P D vwCl ((am_ws aC xa uv f σ).set (ah_ad σ t i) (f (ah_ad σ t i), .inr (t, ((List.range (am_nf t)).map (am_fv xa uv f σ t i)).set j v))) H1)
    (hD : va_D (am_A z) ((am_ws aC xa uv f σ).set (ah_ad σ t i) (f (ah_ad σ t i), .inr (t, ((List.range (am_nf t)).map (am_fv xa uv f σ t i)).set j v)))) : am_Hr D aC xa uv z f σ' H1 := by
  have e1 : am_ws aC xa uv f σ' = (am_ws aC xa uv f σ).set (ah_ad σ t i) (f (ah_ad σ t i), .inr (t, ((List.range (am_nf t)).map (am_fv xa uv f σ t i)).set j v)) := by
    rw [am_ws_set aC xa uv (σ' := σ') hH.2.2 hg (by omega) hb hI hR]
    have e2 : am_ce aC xa uv f σ' (t, i) = .inr (t, ((List.range (am_nf t)).map (am_fv xa uv f σ t i)).set j v) := by
      unfold am_ce
      simp only [am_blt (show t < 16 by omega), cond_true]
      congr 2
      refine List.ext_getElem? fun k => ?_
      by_cases hk : k = j
      · subst hk
        by_cases hkl : k < am_nf t
        · rw [List.getElem?_set_self (by simp [hkl])]
          simp [hkl, hv]
        · rw [List.getElem?_eq_none (by simp; omega), List.getElem?_eq_none (by simp; omega)]
      · rw [List.getElem?_set_ne (fun e => hk e.symm)]
        simp only [List.getElem?_map]
        by_cases hkl : k < am_nf t
        · simp [hkl, hne k hk]
        · simp [hkl]
    rw [e2]
  exact ⟨by rw [e1]; exact hP, by rw [e1]; exact hD, hwf⟩
theorem am_s_aaload {len : Nat} {w : Int32} {a b c9 : Nat} {tb : List (Int32 × Nat)} (h : am_Hyp D aC xa uv X XL z l n y pc ls st σ r (.aaload, len, w, a, b, c9, tb) p R s m args meth c H locs lsA f f0 n0 sl0) : W p l e R s m args below meth c H locs (ah_n σ - n0) (ah_sl σ - sl0) (am_MQ below (am_Q D aC xa uv z f0 n0 r) args s (ah_n r.2 - n0) (ah_sl r.2 - sl0) (am_A z)) (F0 m pc lsA (st.map (am_cv xa uv f σ))) := by
  have h0 := h
  obtain ⟨ih, hy, ⟨hx, hb, hml, hlk, hts, q0, hq0, hrt, hown, hnm, hfr, hlc, htab⟩, hC, hF, hc1, hc2, hdg, ⟨q, hq, hchk⟩, hrun⟩ := h
  cases hq0.symm.trans hq
  have hgs := hF.2.2.2.2.2.1
  simp only [am_step] at hrun
  simp only [am_rchk, Bool.and_eq_true, decide_eq_true_eq] at hchk
  dsimp only at hdg
  cases Nat.eq_of_beq_eq_true hchk
  unfold am_aald at hrun
  split at hrun
  · rename_i j t i r9
    have hgq : am_gq σ (t, i) := hgs.t.h
    cases h2 : (Nat.blt t 200 && (Nat.beq (am_ak t) 3 || Nat.beq (am_ak t) 4) && am_in j (ah_ln σ t i)) <;> simp only [h2, cond_true, cond_false] at hrun
    · cases hrun
    · simp only [Bool.and_eq_true, Bool.or_eq_true] at h2
      have ht := am_blt' h2.1.1
      have hk : am_ak t = 3 ∨ am_ak t = 4 := h2.1.2.imp Nat.eq_of_beq_eq_true Nat.eq_of_beq_eq_true
      have hgo := am_go (e := e) (below := below) h0 hrun (am_gl.c (am_gR hF.1 hgq ht _) hgs.t.t)
      have hv : am_cv xa uv f σ (.inr (.inr (ah_R σ t i j.toNatClampNeg))) = va_rf ((ah_R σ t i j.toNatClampNeg).map (fun r => f (ah_ad σ r.1 r.2))) := by
        cases hr : ah_R σ t i j.toNatClampNeg with
        | none => rfl
        | some r8 =>
          obtain ⟨a8, b8⟩ := r8
          rw [am_cvr (am_gR2 hF.1 hgq ht (am_16 (by omega)) hr)]
          rfl
      simp only [List.map_cons] at hgo
      rw [hv] at hgo
      show W p l e R s m args below meth c H locs _ _ _ (F0 m pc lsA (.int j :: am_cv xa uv f σ (.inr (.inr (some (t, i)))) :: r9.map (am_cv xa uv f σ)))
      rw [am_cvr ht]
      have hws := am_ws_arq (aC := aC) (xa := xa) (uv := uv) (f := f) hgq ht hk
      rcases hk with hk | hk
      · rw [hk] at hws
        exact va_aldq hx hb hC.1 hF.1.1 _ 3 hws rfl (am_inv h2.2) hdg hgo
      · rw [hk] at hws
        exact va_aldq hx hb hC.1 hF.1.1 _ 4 hws rfl (am_inv h2.2) hdg hgo
  · cases hrun

theorem am_s_aastore {len : Nat} {w : Int32} {a b c9 : Nat} {tb : List (Int32 × Nat)} (h : am_Hyp D aC xa uv X XL z l n y pc ls st σ r (.aastore, len, w, a, b, c9, tb) p R s m args meth c H locs lsA f f0 n0 sl0) : W p l e R s m args below meth c H locs (ah_n σ - n0) (ah_sl σ - sl0) (am_MQ below (am_Q D aC xa uv z f0 n0 r) args s (ah_n r.2 - n0) (ah_sl r.2 - sl0) (am_A z)) (F0 m pc lsA (st.map (am_cv xa uv f σ))) := by
  have h0 := h
  obtain ⟨ih, hy, ⟨hx, hb, hml, hlk, hts, q0, hq0, hrt, hown, hnm, hfr, hlc, htab⟩, hC, hF, hc1, hc2, hdg, ⟨q, hq, hchk⟩, hrun⟩ := h
  cases hq0.symm.trans hq
  have hgs := hF.2.2.2.2.2.1
  simp only [am_step] at hrun
  simp only [am_rchk, Bool.and_eq_true, decide_eq_true_eq] at hchk
  dsimp only at hdg
  cases Nat.eq_of_beq_eq_true hchk
  unfold am_aast at hrun
  split at hrun
  · rename_i t2 i2 j t i r9
    have hgq2 : am_gq σ (t2, i2) := hgs.h
    have hgq : am_gq σ (t, i) := hgs.t.t.h
    cases h2 : (Nat.blt t 200 && ((Nat.beq (am_ak t) 3 && Nat.beq t2 3) || (Nat.beq (am_ak t) 4 && Nat.beq t2 1)) && am_in j (ah_ln σ t i)) <;> simp only [h2, cond_true, cond_false] at hrun
    · cases hrun
    · simp only [Bool.and_eq_true, Bool.or_eq_true] at h2
      have ht := am_blt' h2.1.1
      have hk : (am_ak t = 3 ∧ t2 = 3) ∨ (am_ak t = 4 ∧ t2 = 1) := h2.1.2.imp (fun h => ⟨Nat.eq_of_beq_eq_true h.1, Nat.eq_of_beq_eq_true h.2⟩) (fun h => ⟨Nat.eq_of_beq_eq_true h.1, Nat.eq_of_beq_eq_true h.2⟩)
      have ht2 : t2 < 14 := by omega
      have hws := am_ws_arq (aC := aC) (xa := xa) (uv := uv) (f := f) hgq ht (by omega)
      have hws2 := am_ws_obj (aC := aC) (xa := xa) (uv := uv) (f := f) hgq2 ht2
      show W p l e R s m args below meth c H locs _ _ _ (F0 m pc lsA (am_cv xa uv f σ (.inr (.inr (some (t2, i2)))) :: .int j :: am_cv xa uv f σ (.inr (.inr (some (t, i)))) :: r9.map (am_cv xa uv f σ)))
      rw [am_cvr ht, am_cvr (show t2 < 200 by omega)]
      rcases hk with ⟨hk, e9⟩ | ⟨hk, e9⟩
      · subst e9
        have hws3 := hws
        rw [hk] at hws3
        refine va_astq hx hb hC.1 hF.1.1 hF.1.2.1 hF.2.1 _ 3 _ 3 hws3 rfl hws2 rfl (am_inv h2.2) hdg (fun H1 locs1 hP hD hS => ?_)
        rw [show aC 3 = aC (am_ak t) by rw [hk]] at hP hD
        exact am_goH h0 hrun rfl hgs.t.t.t (am_Hr_arq hF.1 hgq ht (by omega) hgq2 (by show 3 < 200; omega) hP hD) hS
      · subst e9
        have hws3 := hws
        rw [hk] at hws3
        refine va_astq hx hb hC.1 hF.1.1 hF.1.2.1 hF.2.1 _ 4 _ 1 hws3 rfl hws2 rfl (am_inv h2.2) hdg (fun H1 locs1 hP hD hS => ?_)
        rw [show aC 4 = aC (am_ak t) by rw [hk]] at hP hD
        exact am_goH h0 hrun rfl hgs.t.t.t (am_Hr_arq hF.1 hgq ht (by omega) hgq2 (by show 1 < 200; omega) hP hD) hS
  · cases hrun

theorem am_s_alen {len : Nat} {w : Int32} {a b c9 : Nat} {tb : List (Int32 × Nat)} (h : am_Hyp D aC xa uv X XL z l n y pc ls st σ r (.arraylength, len, w, a, b, c9, tb) p R s m args meth c H locs lsA f f0 n0 sl0) : W p l e R s m args below meth c H locs (ah_n σ - n0) (ah_sl σ - sl0) (am_MQ below (am_Q D aC xa uv z f0 n0 r) args s (ah_n r.2 - n0) (ah_sl r.2 - sl0) (am_A z)) (F0 m pc lsA (st.map (am_cv xa uv f σ))) := by
  have h0 := h
  obtain ⟨ih, hy, ⟨hx, hb, hml, hlk, hts, q0, hq0, hrt, hown, hnm, hfr, hlc, htab⟩, hC, hF, hc1, hc2, hdg, ⟨q, hq, hchk⟩, hrun⟩ := h
  cases hq0.symm.trans hq
  have hgs := hF.2.2.2.2.2.1
  simp only [am_step] at hrun
  simp only [am_rchk, Bool.and_eq_true, decide_eq_true_eq] at hchk
  dsimp only at hdg
  cases Nat.eq_of_beq_eq_true hchk
  unfold am_alen at hrun
  split at hrun
  · rename_i t i r9
    have hgq : am_gq σ (t, i) := hgs.h
    cases h2 : ((Nat.blt t 200 && !Nat.beq (am_ak t) 9) || (Nat.blt 199 t && Nat.blt t 220 && Nat.blt 0 (XL t))) <;> simp only [h2, cond_true, cond_false] at hrun
    · cases hrun
    · have hgo := am_go (e := e) (below := below) h0 hrun (am_gl.c trivial hgs.t)
      show W p l e R s m args below meth c H locs _ _ _ (F0 m pc lsA (am_cv xa uv f σ (.inr (.inr (some (t, i)))) :: r9.map (am_cv xa uv f σ)))
      unfold am_len at hgo
      cases hlt : Nat.blt t 200 <;> simp only [hlt, cond_true, cond_false] at hgo
      · rw [hlt] at h2
        simp only [Bool.false_and, Bool.false_or, Bool.and_eq_true] at h2
        have hge := am_nblt hlt
        have ht2 := am_blt' h2.1.2
        have ht3 : t < 212 := by
          rcases hgq with hh | hh
          · have := hh.2; omega
          · omega
        obtain ⟨hX, hxz⟩ := hC.2.1 t hge ht3
        rw [am_cvx hge ht2]
        obtain ⟨scr, x1, x2, x3, x4, x5, x6⟩ := hX
        exact W.alen (n := Int32.ofNat (XL t - 1)) hx hb (by rw [hF.2.1.2.1 (xa t) (Nat.lt_of_lt_of_le hxz hC.2.2.2.1) (Nat.not_le.mpr hxz)]; exact x1) x2 x5 rfl rfl hdg hgo
      · have ht := am_blt' hlt
        rw [am_cvr ht]
        have hk : am_ak t < 5 := by
          rcases hgq with hh | ⟨-, h3, h4⟩
          · exact absurd ht (Nat.not_lt.mpr hh.1)
          · have h5 := (hF.1.2.2 _ h3).2.2.1
            rw [h4] at h5
            rcases h5 with h5 | h5
            · rw [am_ak_obj (show t < 16 by have h6 : t < 14 := h5; omega)] at h2
              simp [show Nat.blt 199 t = false from by
                cases hb9 : Nat.blt 199 t
                · rfl
                · have := am_blt' hb9; omega] at h2
            · exact h5.2
        rcases (show am_ak t = 0 ∨ am_ak t = 1 ∨ am_ak t = 2 ∨ am_ak t = 3 ∨ am_ak t = 4 by omega) with hk | hk | hk | hk | hk
        · have hws := am_ws_arr (aC := aC) (xa := xa) (uv := uv) (f := f) hgq ht (by omega)
          rw [hk] at hws
          exact va_alen hx hb hC.1 hF.1.1 _ 0 hws (ty := .int) rfl rfl hdg hgo
        · have hws := am_ws_arr (aC := aC) (xa := xa) (uv := uv) (f := f) hgq ht (by omega)
          rw [hk] at hws
          exact va_alen hx hb hC.1 hF.1.1 _ 1 hws (ty := .byte) rfl rfl hdg hgo
        · have hws := am_ws_arr (aC := aC) (xa := xa) (uv := uv) (f := f) hgq ht (by omega)
          rw [hk] at hws
          exact va_alen hx hb hC.1 hF.1.1 _ 2 hws (ty := .boolean) rfl rfl hdg hgo
        · have hws := am_ws_arq (aC := aC) (xa := xa) (uv := uv) (f := f) hgq ht (by omega)
          rw [hk] at hws
          exact va_alen hx hb hC.1 hF.1.1 _ 3 hws (ty := .object "BrotliWords$Code") rfl rfl hdg hgo
        · have hws := am_ws_arq (aC := aC) (xa := xa) (uv := uv) (f := f) hgq ht (by omega)
          rw [hk] at hws
          exact va_alen hx hb hC.1 hF.1.1 _ 4 hws (ty := .object "BrotliWords$Blocks") rfl rfl hdg hgo
  · cases hrun

theorem am_s_getfield {len : Nat} {w : Int32} {a b c9 : Nat} {tb : List (Int32 × Nat)} {k9 : Nat} (h : am_Hyp D aC xa uv X XL z l n y pc ls st σ r (.getfield k9, len, w, a, b, c9, tb) p R s m args meth c H locs lsA f f0 n0 sl0) : W p l e R s m args below meth c H locs (ah_n σ - n0) (ah_sl σ - sl0) (am_MQ below (am_Q D aC xa uv z f0 n0 r) args s (ah_n r.2 - n0) (ah_sl r.2 - sl0) (am_A z)) (F0 m pc lsA (st.map (am_cv xa uv f σ))) := by
  have h0 := h
  obtain ⟨ih, hy, ⟨hx, hb, hml, hlk, hts, q0, hq0, hrt, hown, hnm, hfr, hlc, htab⟩, hC, hF, hc1, hc2, hdg, ⟨q, hq, hchk⟩, hrun⟩ := h
  cases hq0.symm.trans hq
  have hgs := hF.2.2.2.2.2.1
  simp only [am_step] at hrun
  simp only [am_rchk, Bool.and_eq_true, decide_eq_true_eq] at hchk
  dsimp only at hdg
  obtain ⟨e1, e2⟩ := hchk
  cases Nat.eq_of_beq_eq_true e1
  unfold am_getf at hrun
  split at hrun
  · rename_i t i r9
    have hgq : am_gq σ (t, i) := hgs.h
    cases h2 : Nat.beq t a <;> simp only [h2, cond_true, cond_false] at hrun
    · cases hrun
    · have h2 := Nat.eq_of_beq_eq_true h2
      subst h2
      obtain ⟨C, T, N, hh, pos, hv, ht, hbN, hc9, -, hlink⟩ := am_ft_spec (P := fun _ => true) (by simpa using e2)
      obtain ⟨hin, hCo, hN, -⟩ := am_cl_spec ht hv
      have hws := am_ws_obj (aC := aC) (xa := xa) (uv := uv) (f := f) hgq ht
      have hfs : ((List.range (am_nf t)).map (am_fv xa uv f σ t i))[b]? = some (am_fv xa uv f σ t i b) := by
        simp [show b < am_nf t by omega]
      have hgo := am_go (e := e) (below := below) h0 hrun (am_gl.c (show am_gv σ (bif Nat.beq c9 1 then av_q (ah_R σ t i b) else av_i (ah_I σ t i b)) by
        cases Nat.beq c9 1
        · trivial
        · exact am_gR hF.1 hgq (by omega) b) hgs.t)
      have he : am_cv xa uv f σ (bif Nat.beq c9 1 then av_q (ah_R σ t i b) else av_i (ah_I σ t i b)) = am_fv xa uv f σ t i b := by
        unfold am_fv
        rw [hc9]
        cases Nat.beq (am_fk t b) 1 <;> rfl
      simp only [List.map_cons] at hgo
      rw [he] at hgo
      show W p l e R s m args below meth c H locs _ _ _ (F0 m pc lsA (am_cv xa uv f σ (.inr (.inr (some (t, i)))) :: r9.map (am_cv xa uv f σ)))
      rw [am_cvr (show t < 200 by omega)]
      rcases hlink with ⟨-, hlink⟩ | ⟨-, host, hlink⟩
      · exact va_get hx hb hts hin hown hC.1 hF.1.1 _ hws hv b hbN (hts _ hlink) (fun _ h9 => h9) hfs hdg hgo
      · exact va_getN hx hb hts hin hown hC.1 hF.1.1 _ hws hv b hbN (va_Nw.use rfl (hC.2.2.2.2.2.1 _ (List.mem_filter.mpr ⟨List.mem_of_getElem? hlink, rfl⟩))) (fun _ h9 => h9) hfs hdg hgo
  · cases hrun

end AmHeap3
