section AmHeap
variable {D : va_G} {aC : Nat → ClassId} {xa : Nat → Nat} {uv : Nat → Value} {X : Nat → Nat → Int32} {XL : Nat → Nat} {z : Nat}
variable {l : Launch} {n y pc : Nat} {ls st : List am_V} {σ : am_H} {r : am_O × am_H} {p : Program} {e : Env} {R : Room} {s : State} {m : MethodId} {args : Array Value} {below : List Frame} {meth : Method} {c : Code} {H : Heap} {locs : List Loc} {lsA : Array Slot} {f : Nat → Nat} {f0 : (Nat → Nat) × am_H} {n0 sl0 : Nat}
theorem am_goL {row : am_Row} (h : am_Hyp D aC xa uv X XL z l n y pc ls st σ r row p R s m args meth c H locs lsA f f0 n0 sl0) {pc' : Nat} {st' ls' : List am_V} {lsB : Array Slot} (hr : am_run am_ak X XL am_code am_ml n y pc' ls' st' σ = some r) (hg : am_gl σ st') (hg2 : am_gl σ ls') (hln : ls'.length = ls.length) (hls : am_ls xa uv f σ ls' lsB) :
    W p l e R s m args below meth c H locs (ah_n σ - n0) (ah_sl σ - sl0) (am_MQ below (am_Q D aC xa uv z f0 n0 r) args s (ah_n r.2 - n0) (ah_sl r.2 - sl0) (am_A z)) (F0 m pc' lsB (st'.map (am_cv xa uv f σ))) := by
  obtain ⟨ih, hy, hG, hC, ⟨a1, a2, a3, a4, a5, a6, a7, a8, a9⟩, h1, h2, -⟩ := h
  exact ih y pc' ls' st' σ r hr hy p e R s m args below meth c H locs lsB f f0 n0 sl0 hG hC ⟨a1, a2, hls, hln.trans a4, hg2, hg, a7, a8, a9⟩ h1 h2
theorem am_map_base {σ' : am_H} (hb : σ'.1 = σ.1) (st' : List am_V) : st'.map (am_cv xa uv f σ') = st'.map (am_cv xa uv f σ) := List.map_congr_left fun v _ => am_cv_base xa uv hb v
theorem am_goH {row : am_Row} (h : am_Hyp D aC xa uv X XL z l n y pc ls st σ r row p R s m args meth c H locs lsA f f0 n0 sl0) {pc' : Nat} {st' : List am_V} {σ' : am_H} {H' : Heap} {locs' : List Loc} (hr : am_run am_ak X XL am_code am_ml n y pc' ls st' σ' = some r) (hb : σ'.1 = σ.1) (hg : am_gl σ st') (hH : am_Hr D aC xa uv z f σ' H') (hS : va_S (am_A z) s.heap H' locs') :
    W p l e R s m args below meth c H' locs' (ah_n σ - n0) (ah_sl σ - sl0) (am_MQ below (am_Q D aC xa uv z f0 n0 r) args s (ah_n r.2 - n0) (ah_sl r.2 - sl0) (am_A z)) (F0 m pc' lsA (st'.map (am_cv xa uv f σ))) := by
  obtain ⟨ih, hy, hG, hC, ⟨a1, a2, a3, a4, a5, a6, a7, a8, a9⟩, h1, h2, -⟩ := h
  have e1 : ah_n σ' = ah_n σ := congrArg (fun b : am_B => b.1) hb
  have e2 : ah_sl σ' = ah_sl σ := congrArg (fun b : am_B => b.2.2.2.2.1) hb
  rw [← am_map_base hb, ← e1, ← e2]
  exact ih y pc' ls st' σ' r hr hy p e R s m args below meth c H' locs' lsA f f0 n0 sl0 hG hC ⟨hH, hS, am_ls_base xa uv hb a3, a4, a5.base hb, hg.base hb, ⟨am_ex_tr a7.1 (am_ex_base hb), a7.2⟩, by rw [e1]; exact a8, by rw [e2]; exact a9⟩ h1 h2
theorem am_blt {t k : Nat} (h : t < k) : Nat.blt t k = true := Nat.ble_eq_true_of_le h
theorem am_blt' {t k : Nat} (h : Nat.blt t k = true) : t < k := Nat.le_of_ble_eq_true h
theorem am_nblt {t k : Nat} (h : Nat.blt t k = false) : k ≤ t := by
  rcases Nat.lt_or_ge t k with h1 | h1
  · rw [am_blt h1] at h; cases h
  · exact h1
theorem am_cvr {t i : Nat} (h : t < 200) : am_cv xa uv f σ (.inr (.inr (some (t, i)))) = .ref (f (ah_ad σ t i)) := by
  show am_rv xa uv f σ (t, i) = _
  unfold am_rv
  simp only [am_blt h, cond_true]
theorem am_cvx {t i : Nat} (h : 200 ≤ t) (h2 : t < 220) : am_cv xa uv f σ (.inr (.inr (some (t, i)))) = .ref (xa t) := by
  show am_rv xa uv f σ (t, i) = _
  unfold am_rv
  have h1 : Nat.blt t 200 = false := by
    cases hb : Nat.blt t 200
    · rfl
    · exact absurd (am_blt' hb) (Nat.not_lt.mpr h)
  simp only [h1, cond_false, am_blt h2, cond_true]
theorem am_inv {j : Int32} {k : Nat} (h : am_in j k = true) : vp_in j k := by
  unfold am_in at h
  simp only [Bool.and_eq_true, Bool.not_eq_true', decide_eq_false_iff_not] at h
  exact fun hh => hh.elim h.1 (fun q => absurd (am_blt' h.2) (Nat.not_lt.mpr q))
theorem am_ak_obj {t : Nat} (h : t < 16) : am_ak t = 9 := by
  have : (List.range 16).all (fun t => Nat.beq (am_ak t) 9) = true := by decide +kernel
  exact Nat.eq_of_beq_eq_true (List.all_eq_true.mp this t (List.mem_range.mpr h))
/-- a good cell of ours, by its kind -/
theorem am_ws_arr {t i : Nat} (hg : am_gq σ (t, i)) (ht : t < 200) (hk : am_ak t < 3) : (am_ws aC xa uv f σ)[ah_ad σ t i]? = some (f (ah_ad σ t i), .inl (aC (am_ak t), ah_ln σ t i, .inl (ah_I σ t i))) := by
  rw [am_ws_at aC xa uv hg ht]
  have h16 : Nat.blt t 16 = false := by
    cases hb : Nat.blt t 16
    · rfl
    · rw [am_ak_obj (am_blt' hb)] at hk; omega
  unfold am_ce
  simp only [h16, cond_false, am_blt hk, cond_true]
theorem am_ws_arq {t i : Nat} (hg : am_gq σ (t, i)) (ht : t < 200) (hk : am_ak t = 3 ∨ am_ak t = 4) : (am_ws aC xa uv f σ)[ah_ad σ t i]? = some (f (ah_ad σ t i), .inl (aC (am_ak t), ah_ln σ t i, .inr (.inr (.inr (.inr (fun j => (ah_R σ t i j).map (fun r => f (ah_ad σ r.1 r.2)))))))) := by
  rw [am_ws_at aC xa uv hg ht]
  have h16 : Nat.blt t 16 = false := by
    cases hb : Nat.blt t 16
    · rfl
    · rw [am_ak_obj (am_blt' hb)] at hk; omega
  have h3 : Nat.blt (am_ak t) 3 = false := by
    cases hb : Nat.blt (am_ak t) 3
    · rfl
    · have := am_blt' hb; omega
  unfold am_ce
  simp only [h16, cond_false, h3]
theorem am_ws_obj {t i : Nat} (hg : am_gq σ (t, i)) (ht : t < 14) : (am_ws aC xa uv f σ)[ah_ad σ t i]? = some (f (ah_ad σ t i), .inr (t, (List.range (am_nf t)).map (am_fv xa uv f σ t i))) := by
  rw [am_ws_at aC xa uv hg (by omega)]
  unfold am_ce
  simp only [am_blt (show t < 16 by omega), cond_true]
/-- a row's place gets a number: the cells behind it -/
theorem am_Hr_arr {t i j : Nat} {x : Int32} {H1 : Heap} (hH : am_Hr D aC xa uv z f σ H) (hg : am_gq σ (t, i)) (ht : t < 200) (hk : am_ak t < 3)
    (hP : va_P D vwCl ((am_ws aC xa uv f σ).set (ah_ad σ t i) (f (ah_ad σ t i), .inl (aC (am_ak t), ah_ln σ t i, .inl (upd (ah_I σ t i) j x)))) H1)
    (hD : va_D (am_A z) ((am_ws aC xa uv f σ).set (ah_ad σ t i) (f (ah_ad σ t i), .inl (aC (am_ak t), ah_ln σ t i, .inl (upd (ah_I σ t i) j x))))) : am_Hr D aC xa uv z f (am_sI σ t i j x) H1 := by
  have e1 : am_ws aC xa uv f (am_sI σ t i j x) = (am_ws aC xa uv f σ).set (ah_ad σ t i) (f (ah_ad σ t i), .inl (aC (am_ak t), ah_ln σ t i, .inl (upd (ah_I σ t i) j x))) := by
    rw [am_ws_set aC xa uv (σ' := am_sI σ t i j x) hH.2.2 hg ht rfl (fun t' i' hne => by show am_c σ.2.1 t i _ t' i' = _; rw [am_c, if_neg hne]) (fun _ _ _ => rfl)]
    have h16 : Nat.blt t 16 = false := by
      cases hb : Nat.blt t 16
      · rfl
      · rw [am_ak_obj (am_blt' hb)] at hk; omega
    have e2 : am_ce aC xa uv f (am_sI σ t i j x) (t, i) = .inl (aC (am_ak t), ah_ln σ t i, .inl (upd (ah_I σ t i) j x)) := by
      unfold am_ce
      simp only [h16, cond_false, am_blt hk, cond_true]
      show Sum.inl (aC (am_ak t), ah_ln σ t i, Sum.inl (am_c σ.2.1 t i (upd (σ.2.1 t i) j x) t i)) = _
      rw [am_c, if_pos ⟨rfl, rfl⟩]
    rw [e2]
  refine ⟨by rw [e1]; exact hP, by rw [e1]; exact hD, am_wf_I hH.2.2 t i j x⟩
end AmHeap
