section AmHeap2
variable {D : va_G} {aC : Nat → ClassId} {xa : Nat → Nat} {uv : Nat → Value} {X : Nat → Nat → Int32} {XL : Nat → Nat} {z : Nat}
variable {l : Launch} {n y pc : Nat} {ls st : List am_V} {σ : am_H} {r : am_O × am_H} {p : Program} {e : Env} {R : Room} {s : State} {m : MethodId} {args : Array Value} {below : List Frame} {meth : Method} {c : Code} {H : Heap} {locs : List Loc} {lsA : Array Slot} {f : Nat → Nat} {f0 : (Nat → Nat) × am_H} {n0 sl0 : Nat}
theorem am_s_istore_n {len : Nat} {w : Int32} {a b c9 : Nat} {tb : List (Int32 × Nat)} {k9 : Fin 4} (h : am_Hyp D aC xa uv X XL z l n y pc ls st σ r (.istore_n k9, len, w, a, b, c9, tb) p R s m args meth c H locs lsA f f0 n0 sl0) : W p l e R s m args below meth c H locs (ah_n σ - n0) (ah_sl σ - sl0) (am_MQ below (am_Q D aC xa uv z f0 n0 r) args s (ah_n r.2 - n0) (ah_sl r.2 - sl0) (am_A z)) (F0 m pc lsA (st.map (am_cv xa uv f σ))) := by
  have h0 := h
  obtain ⟨ih, hy, ⟨hx, hb, hml, hlk, hts, q0, hq0, hrt, hown, hnm, hfr, hlc, htab⟩, hC, hF, hc1, hc2, hdg, ⟨q, hq, hchk⟩, hrun⟩ := h
  cases hq0.symm.trans hq
  have hgs := hF.2.2.2.2.2.1
  simp only [am_step] at hrun
  simp only [am_rchk, Bool.and_eq_true, decide_eq_true_eq] at hchk
  dsimp only at hdg
  obtain ⟨e1, e2⟩ := hchk
  cases Nat.eq_of_beq_eq_true e1
  have e2 := Nat.eq_of_beq_eq_true e2
  subst e2
  unfold am_sti at hrun
  split at hrun
  · rename_i x r9
    cases hlt : Nat.blt k9.val ls.length <;> simp only [hlt, cond_true, cond_false] at hrun
    · cases hrun
    · have hlt := am_blt' hlt
      exact lv_istore_n hx hb hdg rfl (am_ls_has xa uv hF.2.2.1) hlt rfl (fun lsB hlB => am_goL h0 hrun hgs.t (hF.2.2.2.2.1.set trivial) List.length_set (am_ls_put xa uv (v := .inl x) hC.2.2.2.2.1 hlt hlB))
  · cases hrun

theorem am_s_istore {len : Nat} {w : Int32} {a b c9 : Nat} {tb : List (Int32 × Nat)} {k9 : Nat} (h : am_Hyp D aC xa uv X XL z l n y pc ls st σ r (.istore k9, len, w, a, b, c9, tb) p R s m args meth c H locs lsA f f0 n0 sl0) : W p l e R s m args below meth c H locs (ah_n σ - n0) (ah_sl σ - sl0) (am_MQ below (am_Q D aC xa uv z f0 n0 r) args s (ah_n r.2 - n0) (ah_sl r.2 - sl0) (am_A z)) (F0 m pc lsA (st.map (am_cv xa uv f σ))) := by
  have h0 := h
  obtain ⟨ih, hy, ⟨hx, hb, hml, hlk, hts, q0, hq0, hrt, hown, hnm, hfr, hlc, htab⟩, hC, hF, hc1, hc2, hdg, ⟨q, hq, hchk⟩, hrun⟩ := h
  cases hq0.symm.trans hq
  have hgs := hF.2.2.2.2.2.1
  simp only [am_step] at hrun
  simp only [am_rchk, Bool.and_eq_true, decide_eq_true_eq] at hchk
  dsimp only at hdg
  obtain ⟨e1, e2⟩ := hchk
  cases Nat.eq_of_beq_eq_true e1
  have e2 := Nat.eq_of_beq_eq_true e2
  subst e2
  unfold am_sti at hrun
  split at hrun
  · rename_i x r9
    cases hlt : Nat.blt a ls.length <;> simp only [hlt, cond_true, cond_false] at hrun
    · cases hrun
    · have hlt := am_blt' hlt
      exact lv_istore hx hb hdg (am_ls_has xa uv hF.2.2.1) hlt rfl (fun lsB hlB => am_goL h0 hrun hgs.t (hF.2.2.2.2.1.set trivial) List.length_set (am_ls_put xa uv (v := .inl x) hC.2.2.2.2.1 hlt hlB))
  · cases hrun

theorem am_s_astore_n {len : Nat} {w : Int32} {a b c9 : Nat} {tb : List (Int32 × Nat)} {k9 : Fin 4} (h : am_Hyp D aC xa uv X XL z l n y pc ls st σ r (.astore_n k9, len, w, a, b, c9, tb) p R s m args meth c H locs lsA f f0 n0 sl0) : W p l e R s m args below meth c H locs (ah_n σ - n0) (ah_sl σ - sl0) (am_MQ below (am_Q D aC xa uv z f0 n0 r) args s (ah_n r.2 - n0) (ah_sl r.2 - sl0) (am_A z)) (F0 m pc lsA (st.map (am_cv xa uv f σ))) := by
  have h0 := h
  obtain ⟨ih, hy, ⟨hx, hb, hml, hlk, hts, q0, hq0, hrt, hown, hnm, hfr, hlc, htab⟩, hC, hF, hc1, hc2, hdg, ⟨q, hq, hchk⟩, hrun⟩ := h
  cases hq0.symm.trans hq
  have hgs := hF.2.2.2.2.2.1
  simp only [am_step] at hrun
  simp only [am_rchk, Bool.and_eq_true, decide_eq_true_eq] at hchk
  dsimp only at hdg
  obtain ⟨e1, e2⟩ := hchk
  cases Nat.eq_of_beq_eq_true e1
  have e2 := Nat.eq_of_beq_eq_true e2
  subst e2
  unfold am_sta at hrun
  split at hrun
  · rename_i x r9
    cases hlt : Nat.blt k9.val ls.length <;> simp only [hlt, cond_true, cond_false] at hrun
    · cases hrun
    · have hlt := am_blt' hlt
      have hgo : ∀ lsB : Array Slot, lv_has lsB ls.length ((k9.val, am_cv xa uv f σ (.inr (.inr x))) :: (am_lv xa uv f σ ls).filter (fun q => !(q.1 == k9.val) && !(q.1 + 1 == k9.val && q.2.category == 2))) → W p l e R s m args below meth c H locs (ah_n σ - n0) (ah_sl σ - sl0) (am_MQ below (am_Q D aC xa uv z f0 n0 r) args s (ah_n r.2 - n0) (ah_sl r.2 - sl0) (am_A z)) (F0 m _ lsB (r9.map (am_cv xa uv f σ))) := fun lsB hlB => am_goL h0 hrun hgs.t (hF.2.2.2.2.1.set hgs.h) List.length_set (am_ls_put xa uv (v := .inr (.inr x)) hC.2.2.2.2.1 hlt hlB)
      show W p l e R s m args below meth c H locs _ _ _ (F0 m pc lsA (am_cv xa uv f σ (.inr (.inr x)) :: r9.map (am_cv xa uv f σ)))
      revert hgo
      rcases x with _ | qq
      · intro hgo
        exact lv_astore_nN hx hb hdg rfl (am_ls_has xa uv hF.2.2.1) hlt rfl hgo
      · show (∀ lsB : Array Slot, lv_has lsB ls.length ((k9.val, am_rv xa uv f σ qq) :: _) → _) → W p l e R s m args below meth c H locs _ _ _ (F0 m pc lsA (am_rv xa uv f σ qq :: r9.map (am_cv xa uv f σ)))
        unfold am_rv
        cases Nat.blt qq.1 200
        · cases Nat.blt qq.1 220
          · simp only [cond_false]
            rcases hC.2.2.2.2.1 qq.1 with e9 | ⟨b9, e9⟩ <;> rw [e9]
            · intro hgo
              exact lv_astore_nN hx hb hdg rfl (am_ls_has xa uv hF.2.2.1) hlt rfl hgo
            · intro hgo
              exact lv_astore_n hx hb hdg rfl (am_ls_has xa uv hF.2.2.1) hlt rfl hgo
          · intro hgo
            exact lv_astore_n hx hb hdg rfl (am_ls_has xa uv hF.2.2.1) hlt rfl hgo
        · intro hgo
          exact lv_astore_n hx hb hdg rfl (am_ls_has xa uv hF.2.2.1) hlt rfl hgo
  · cases hrun

theorem am_s_astore {len : Nat} {w : Int32} {a b c9 : Nat} {tb : List (Int32 × Nat)} {k9 : Nat} (h : am_Hyp D aC xa uv X XL z l n y pc ls st σ r (.astore k9, len, w, a, b, c9, tb) p R s m args meth c H locs lsA f f0 n0 sl0) : W p l e R s m args below meth c H locs (ah_n σ - n0) (ah_sl σ - sl0) (am_MQ below (am_Q D aC xa uv z f0 n0 r) args s (ah_n r.2 - n0) (ah_sl r.2 - sl0) (am_A z)) (F0 m pc lsA (st.map (am_cv xa uv f σ))) := by
  have h0 := h
  obtain ⟨ih, hy, ⟨hx, hb, hml, hlk, hts, q0, hq0, hrt, hown, hnm, hfr, hlc, htab⟩, hC, hF, hc1, hc2, hdg, ⟨q, hq, hchk⟩, hrun⟩ := h
  cases hq0.symm.trans hq
  have hgs := hF.2.2.2.2.2.1
  simp only [am_step] at hrun
  simp only [am_rchk, Bool.and_eq_true, decide_eq_true_eq] at hchk
  dsimp only at hdg
  obtain ⟨e1, e2⟩ := hchk
  cases Nat.eq_of_beq_eq_true e1
  have e2 := Nat.eq_of_beq_eq_true e2
  subst e2
  unfold am_sta at hrun
  split at hrun
  · rename_i x r9
    cases hlt : Nat.blt a ls.length <;> simp only [hlt, cond_true, cond_false] at hrun
    · cases hrun
    · have hlt := am_blt' hlt
      have hgo : ∀ lsB : Array Slot, lv_has lsB ls.length ((a, am_cv xa uv f σ (.inr (.inr x))) :: (am_lv xa uv f σ ls).filter (fun q => !(q.1 == a) && !(q.1 + 1 == a && q.2.category == 2))) → W p l e R s m args below meth c H locs (ah_n σ - n0) (ah_sl σ - sl0) (am_MQ below (am_Q D aC xa uv z f0 n0 r) args s (ah_n r.2 - n0) (ah_sl r.2 - sl0) (am_A z)) (F0 m _ lsB (r9.map (am_cv xa uv f σ))) := fun lsB hlB => am_goL h0 hrun hgs.t (hF.2.2.2.2.1.set hgs.h) List.length_set (am_ls_put xa uv (v := .inr (.inr x)) hC.2.2.2.2.1 hlt hlB)
      show W p l e R s m args below meth c H locs _ _ _ (F0 m pc lsA (am_cv xa uv f σ (.inr (.inr x)) :: r9.map (am_cv xa uv f σ)))
      revert hgo
      rcases x with _ | qq
      · intro hgo
        exact lv_astoreN hx hb hdg (am_ls_has xa uv hF.2.2.1) hlt rfl hgo
      · show (∀ lsB : Array Slot, lv_has lsB ls.length ((a, am_rv xa uv f σ qq) :: _) → _) → W p l e R s m args below meth c H locs _ _ _ (F0 m pc lsA (am_rv xa uv f σ qq :: r9.map (am_cv xa uv f σ)))
        unfold am_rv
        cases Nat.blt qq.1 200
        · cases Nat.blt qq.1 220
          · simp only [cond_false]
            rcases hC.2.2.2.2.1 qq.1 with e9 | ⟨b9, e9⟩ <;> rw [e9]
            · intro hgo
              exact lv_astoreN hx hb hdg (am_ls_has xa uv hF.2.2.1) hlt rfl hgo
            · intro hgo
              exact lv_astore hx hb hdg (am_ls_has xa uv hF.2.2.1) hlt rfl hgo
          · intro hgo
            exact lv_astore hx hb hdg (am_ls_has xa uv hF.2.2.1) hlt rfl hgo
        · intro hgo
          exact lv_astore hx hb hdg (am_ls_has xa uv hF.2.2.1) hlt rfl hgo
  · cases hrun

theorem am_s_iinc {len : Nat} {w : Int32} {a b c9 : Nat} {tb : List (Int32 × Nat)} {k9 : Nat} {j9 : Int} (h : am_Hyp D aC xa uv X XL z l n y pc ls st σ r (.iinc k9 j9, len, w, a, b, c9, tb) p R s m args meth c H locs lsA f f0 n0 sl0) : W p l e R s m args below meth c H locs (ah_n σ - n0) (ah_sl σ - sl0) (am_MQ below (am_Q D aC xa uv z f0 n0 r) args s (ah_n r.2 - n0) (ah_sl r.2 - sl0) (am_A z)) (F0 m pc lsA (st.map (am_cv xa uv f σ))) := by
  have h0 := h
  obtain ⟨ih, hy, ⟨hx, hb, hml, hlk, hts, q0, hq0, hrt, hown, hnm, hfr, hlc, htab⟩, hC, hF, hc1, hc2, hdg, ⟨q, hq, hchk⟩, hrun⟩ := h
  cases hq0.symm.trans hq
  have hgs := hF.2.2.2.2.2.1
  simp only [am_step] at hrun
  simp only [am_rchk, Bool.and_eq_true, decide_eq_true_eq] at hchk
  dsimp only at hdg
  obtain ⟨⟨e1, e2⟩, e3⟩ := hchk
  cases Nat.eq_of_beq_eq_true e1
  have e2 := Nat.eq_of_beq_eq_true e2
  subst e2
  unfold am_inc at hrun
  split at hrun
  · rename_i x hxx
    have hlt : a < ls.length := (List.getElem?_eq_some_iff.mp hxx).1
    have hm : (a, Value.int x) ∈ am_lv xa uv f σ ls := (am_lv_mem xa uv).mpr ⟨.inl x, hxx, rfl, rfl⟩
    obtain ⟨k, hk⟩ := List.mem_iff_getElem?.mp hm
    exact lv_iinc hx hb hdg (am_ls_has xa uv hF.2.2.1) hk (by rw [e3]) hlt rfl (fun lsB hlB => am_goL h0 hrun hgs (hF.2.2.2.2.1.set trivial) List.length_set (am_ls_put xa uv (v := .inl (x + w)) hC.2.2.2.2.1 hlt hlB))
  · cases hrun

theorem am_s_iaload {len : Nat} {w : Int32} {a b c9 : Nat} {tb : List (Int32 × Nat)} (h : am_Hyp D aC xa uv X XL z l n y pc ls st σ r (.iaload, len, w, a, b, c9, tb) p R s m args meth c H locs lsA f f0 n0 sl0) : W p l e R s m args below meth c H locs (ah_n σ - n0) (ah_sl σ - sl0) (am_MQ below (am_Q D aC xa uv z f0 n0 r) args s (ah_n r.2 - n0) (ah_sl r.2 - sl0) (am_A z)) (F0 m pc lsA (st.map (am_cv xa uv f σ))) := by
  have h0 := h
  obtain ⟨ih, hy, ⟨hx, hb, hml, hlk, hts, q0, hq0, hrt, hown, hnm, hfr, hlc, htab⟩, hC, hF, hc1, hc2, hdg, ⟨q, hq, hchk⟩, hrun⟩ := h
  cases hq0.symm.trans hq
  have hgs := hF.2.2.2.2.2.1
  simp only [am_step] at hrun
  simp only [am_rchk, Bool.and_eq_true, decide_eq_true_eq] at hchk
  dsimp only at hdg
  cases Nat.eq_of_beq_eq_true hchk
  unfold am_iald at hrun
  split at hrun
  · rename_i j t i r9
    have hgq : am_gq σ (t, i) := hgs.t.h
    cases hlt : Nat.blt t 200 <;> simp only [hlt, cond_true, cond_false] at hrun
    · cases h2 : (Nat.blt t 220 && am_in j (XL t - 1)) <;> simp only [h2, cond_true, cond_false] at hrun
      · cases hrun
      · simp only [Bool.and_eq_true] at h2
        have hge := am_nblt hlt
        have ht2 := am_blt' h2.1
        have ht3 : t < 212 := by
          rcases hgq with hh | hh
          · have := hh.2; omega
          · omega
        obtain ⟨hX, hxz⟩ := hC.2.1 t hge ht3
        have hgo := am_go (e := e) (below := below) h0 hrun (am_gl.c trivial hgs.t.t)
        show W p l e R s m args below meth c H locs _ _ _ (F0 m pc lsA (.int j :: am_cv xa uv f σ (.inr (.inr (some (t, i)))) :: r9.map (am_cv xa uv f σ)))
        rw [am_cvx hge ht2]
        obtain ⟨scr, x1, x2, x3, x4, x5, x6⟩ := hX
        have hin9 := am_inv h2.2
        have hlt9 : j.toNatClampNeg < XL t - 1 := Nat.not_le.mp fun q => hin9 (Or.inr q)
        exact W.iald (v := .int (X t j.toNatClampNeg)) hx hb (by rw [hF.2.1.2.1 (xa t) (Nat.lt_of_lt_of_le hxz hC.2.2.2.1) (Nat.not_le.mpr hxz)]; exact x1) x2 x3 (fun q => hin9 (q.imp id (fun q => Nat.le_trans x4 q))) (x6 _ hlt9) rfl rfl hdg hgo
    · cases h2 : (Nat.beq (am_ak t) 0 && am_in j (ah_ln σ t i)) <;> simp only [h2, cond_true, cond_false] at hrun
      · cases hrun
      · simp only [Bool.and_eq_true] at h2
        have ht := am_blt' hlt
        have hk := Nat.eq_of_beq_eq_true h2.1
        have hgo := am_go (e := e) (below := below) h0 hrun (am_gl.c trivial hgs.t.t)
        show W p l e R s m args below meth c H locs _ _ _ (F0 m pc lsA (.int j :: am_cv xa uv f σ (.inr (.inr (some (t, i)))) :: r9.map (am_cv xa uv f σ)))
        rw [am_cvr ht]
        have hws := am_ws_arr (aC := aC) (xa := xa) (uv := uv) (f := f) hgq ht (by omega)
        rw [hk] at hws
        exact va_iald hx hb hC.1 hF.1.1 _ 0 hws rfl (am_inv h2.2) hdg hgo
  · cases hrun

theorem am_s_baload {len : Nat} {w : Int32} {a b c9 : Nat} {tb : List (Int32 × Nat)} (h : am_Hyp D aC xa uv X XL z l n y pc ls st σ r (.baload, len, w, a, b, c9, tb) p R s m args meth c H locs lsA f f0 n0 sl0) : W p l e R s m args below meth c H locs (ah_n σ - n0) (ah_sl σ - sl0) (am_MQ below (am_Q D aC xa uv z f0 n0 r) args s (ah_n r.2 - n0) (ah_sl r.2 - sl0) (am_A z)) (F0 m pc lsA (st.map (am_cv xa uv f σ))) := by
  have h0 := h
  obtain ⟨ih, hy, ⟨hx, hb, hml, hlk, hts, q0, hq0, hrt, hown, hnm, hfr, hlc, htab⟩, hC, hF, hc1, hc2, hdg, ⟨q, hq, hchk⟩, hrun⟩ := h
  cases hq0.symm.trans hq
  have hgs := hF.2.2.2.2.2.1
  simp only [am_step] at hrun
  simp only [am_rchk, Bool.and_eq_true, decide_eq_true_eq] at hchk
  dsimp only at hdg
  cases Nat.eq_of_beq_eq_true hchk
  unfold am_bald at hrun
  split at hrun
  · rename_i j t i r9
    have hgq : am_gq σ (t, i) := hgs.t.h
    cases h2 : (Nat.blt t 200 && (Nat.beq (am_ak t) 1 || Nat.beq (am_ak t) 2) && am_in j (ah_ln σ t i)) <;> simp only [h2, cond_true, cond_false] at hrun
    · cases hrun
    · simp only [Bool.and_eq_true, Bool.or_eq_true] at h2
      have ht := am_blt' h2.1.1
      have hgo := am_go (e := e) (below := below) h0 hrun (am_gl.c trivial hgs.t.t)
      show W p l e R s m args below meth c H locs _ _ _ (F0 m pc lsA (.int j :: am_cv xa uv f σ (.inr (.inr (some (t, i)))) :: r9.map (am_cv xa uv f σ)))
      rw [am_cvr ht]
      rcases h2.1.2 with hk | hk
      · have hk := Nat.eq_of_beq_eq_true hk
        have hws := am_ws_arr (aC := aC) (xa := xa) (uv := uv) (f := f) hgq ht (by omega)
        rw [hk] at hws
        exact va_bald hx hb hC.1 hF.1.1 _ 1 hws rfl (am_inv h2.2) hdg hgo
      · have hk := Nat.eq_of_beq_eq_true hk
        have hws := am_ws_arr (aC := aC) (xa := xa) (uv := uv) (f := f) hgq ht (by omega)
        rw [hk] at hws
        exact va_zald hx hb hC.1 hF.1.1 _ 2 hws rfl (am_inv h2.2) hdg hgo
  · cases hrun

theorem am_s_iastore {len : Nat} {w : Int32} {a b c9 : Nat} {tb : List (Int32 × Nat)} (h : am_Hyp D aC xa uv X XL z l n y pc ls st σ r (.iastore, len, w, a, b, c9, tb) p R s m args meth c H locs lsA f f0 n0 sl0) : W p l e R s m args below meth c H locs (ah_n σ - n0) (ah_sl σ - sl0) (am_MQ below (am_Q D aC xa uv z f0 n0 r) args s (ah_n r.2 - n0) (ah_sl r.2 - sl0) (am_A z)) (F0 m pc lsA (st.map (am_cv xa uv f σ))) := by
  have h0 := h
  obtain ⟨ih, hy, ⟨hx, hb, hml, hlk, hts, q0, hq0, hrt, hown, hnm, hfr, hlc, htab⟩, hC, hF, hc1, hc2, hdg, ⟨q, hq, hchk⟩, hrun⟩ := h
  cases hq0.symm.trans hq
  have hgs := hF.2.2.2.2.2.1
  simp only [am_step] at hrun
  simp only [am_rchk, Bool.and_eq_true, decide_eq_true_eq] at hchk
  dsimp only at hdg
  cases Nat.eq_of_beq_eq_true hchk
  unfold am_iast at hrun
  split at hrun
  · rename_i x j t i r9
    have hgq : am_gq σ (t, i) := hgs.t.t.h
    cases h2 : (Nat.blt t 200 && Nat.beq (am_ak t) 0 && am_in j (ah_ln σ t i)) <;> simp only [h2, cond_true, cond_false] at hrun
    · cases hrun
    · simp only [Bool.and_eq_true] at h2
      have ht := am_blt' h2.1.1
      have hk := Nat.eq_of_beq_eq_true h2.1.2
      show W p l e R s m args below meth c H locs _ _ _ (F0 m pc lsA (.int x :: .int j :: am_cv xa uv f σ (.inr (.inr (some (t, i)))) :: r9.map (am_cv xa uv f σ)))
      rw [am_cvr ht]
      have hws := am_ws_arr (aC := aC) (xa := xa) (uv := uv) (f := f) hgq ht (by omega)
      have hws2 := hws
      rw [hk] at hws2
      refine va_iast hx hb hC.1 hF.1.1 hF.1.2.1 hF.2.1 _ 0 hws2 rfl (am_inv h2.2) hdg (fun H1 locs1 hP hD hS => ?_)
      rw [← hk] at hP hD
      exact am_goH h0 hrun rfl hgs.t.t.t (am_Hr_arr hF.1 hgq ht (by omega) hP hD) hS
  · cases hrun

theorem am_s_bastore {len : Nat} {w : Int32} {a b c9 : Nat} {tb : List (Int32 × Nat)} (h : am_Hyp D aC xa uv X XL z l n y pc ls st σ r (.bastore, len, w, a, b, c9, tb) p R s m args meth c H locs lsA f f0 n0 sl0) : W p l e R s m args below meth c H locs (ah_n σ - n0) (ah_sl σ - sl0) (am_MQ below (am_Q D aC xa uv z f0 n0 r) args s (ah_n r.2 - n0) (ah_sl r.2 - sl0) (am_A z)) (F0 m pc lsA (st.map (am_cv xa uv f σ))) := by
  have h0 := h
  obtain ⟨ih, hy, ⟨hx, hb, hml, hlk, hts, q0, hq0, hrt, hown, hnm, hfr, hlc, htab⟩, hC, hF, hc1, hc2, hdg, ⟨q, hq, hchk⟩, hrun⟩ := h
  cases hq0.symm.trans hq
  have hgs := hF.2.2.2.2.2.1
  simp only [am_step] at hrun
  simp only [am_rchk, Bool.and_eq_true, decide_eq_true_eq] at hchk
  dsimp only at hdg
  cases Nat.eq_of_beq_eq_true hchk
  unfold am_bast at hrun
  split at hrun
  · rename_i x j t i r9
    have hgq : am_gq σ (t, i) := hgs.t.t.h
    cases h2 : (Nat.blt t 200 && (Nat.beq (am_ak t) 1 || Nat.beq (am_ak t) 2) && am_in j (ah_ln σ t i)) <;> simp only [h2, cond_true, cond_false] at hrun
    · cases hrun
    · simp only [Bool.and_eq_true, Bool.or_eq_true] at h2
      have ht := am_blt' h2.1.1
      show W p l e R s m args below meth c H locs _ _ _ (F0 m pc lsA (.int x :: .int j :: am_cv xa uv f σ (.inr (.inr (some (t, i)))) :: r9.map (am_cv xa uv f σ)))
      rw [am_cvr ht]
      rcases h2.1.2 with hk | hk
      · have hkk := Nat.eq_of_beq_eq_true hk
        simp only [hk, cond_true] at hrun
        have hws2 := am_ws_arr (aC := aC) (xa := xa) (uv := uv) (f := f) hgq ht (by omega)
        rw [hkk] at hws2
        refine va_bast hx hb hC.1 hF.1.1 hF.1.2.1 hF.2.1 _ 1 hws2 rfl (am_inv h2.2) hdg (fun H1 locs1 hP hD hS => ?_)
        rw [← hkk] at hP hD
        exact am_goH h0 hrun rfl hgs.t.t.t (am_Hr_arr hF.1 hgq ht (by omega) hP hD) hS
      · have hkk := Nat.eq_of_beq_eq_true hk
        have hk1 : Nat.beq (am_ak t) 1 = false := by rw [hkk]; rfl
        simp only [hk1, cond_false] at hrun
        have hws2 := am_ws_arr (aC := aC) (xa := xa) (uv := uv) (f := f) hgq ht (by omega)
        rw [hkk] at hws2
        refine va_zast hx hb hC.1 hF.1.1 hF.1.2.1 hF.2.1 _ 2 hws2 rfl (am_inv h2.2) hdg (fun H1 locs1 hP hD hS => ?_)
        rw [← hkk] at hP hD
        exact am_goH h0 hrun rfl hgs.t.t.t (am_Hr_arr hF.1 hgq ht (by omega) hP hD) hS
  · cases hrun

end AmHeap2
