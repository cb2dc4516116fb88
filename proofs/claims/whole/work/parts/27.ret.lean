section AmRet
variable {D : va_G} {aC : Nat → ClassId} {xa : Nat → Nat} {uv : Nat → Value} {X : Nat → Nat → Int32} {XL : Nat → Nat} {z : Nat}
variable {l : Launch} {n y pc : Nat} {ls st : List am_V} {σ : am_H} {r : am_O × am_H} {p : Program} {e : Env} {R : Room} {s : State} {m : MethodId} {args : Array Value} {below : List Frame} {meth : Method} {c : Code} {H : Heap} {locs : List Loc} {lsA : Array Slot} {f : Nat → Nat} {f0 : (Nat → Nat) × am_H} {n0 sl0 : Nat}
theorem am_zret {cc : ByteArray} {Qc : Array Value → State → Outcome → State → Prop} {free : Addr → Prop} {cells slots : Nat} {v w : Int32} {ty : FieldType} (hexec : p.tables.exec = Jvm.exec) (hb : c.code = cc) (hr : meth.sig.returnType = some ty) (hn : narrow ty (.int v) = .int w)
    (hq : ∀ t : State, t.heap = H → s.WarmedH t.vm → Qc args s (.returned (some (.int w))) t) (hf : ∀ q ∈ locs, free q.base)
    {pc : Nat} {ls : Array Slot} (hdg : decode cc pc = .ok (.ireturn, 1)) (hlocks : meth.locks = false) : W p l e R s m args below meth c H locs cells slots (MQ below Qc args s cells slots free) (F0 m pc ls [.int v]) := by
  intro T hT X
  obtain ⟨fs, hret, hrun, hended, hW, hframe⟩ := X.leave (v := some (.int w)) (fun h => by rw [hr] at h; cases h)
  have hmeth' : T.vm.method? m = some meth := X.method'
  refine ⟨T.setFrames fs, ?_, .returned (some (.int w)), hrun, hended, hq _ hT hW, locs, ⟨⟨_, rfl⟩, hW, hframe⟩, hf⟩
  jvm_step X.here [X.here.top, hexec, hb, hdg, hmeth', hr, hn]
  (try refine ⟨rfl, ?_⟩); (try refine ⟨rfl, ?_⟩)
  first | (intro acts; rw [hret _ acts rfl rfl rfl]) | rw [hret _ _ rfl rfl rfl]
  exact Steps.refl _
/-- no handler stands here -/
theorem am_uncov {hd : List (Nat × Nat × Nat × Nat)} (htab : c.exceptionTable.toList.map (fun h => (h.startPc, h.endPc, h.handlerPc, h.catchType)) = hd) (h : am_hdchk pc hd [] = true) : ∀ x ∈ c.exceptionTable.toList, covers x pc = false := by
  intro x hx
  have hm : (x.startPc, x.endPc, x.handlerPc, x.catchType) ∈ hd := by rw [← htab]; exact List.mem_map_of_mem hx
  match hd, h, hm with
  | [], _, hm => cases hm
  | [q], h, hm =>
    simp only [List.mem_singleton] at hm
    subst hm
    simp only [am_hdchk, Bool.not_eq_true', Bool.and_eq_false_iff, decide_eq_false_iff_not] at h
    unfold covers
    simp only [Bool.and_eq_false_iff, decide_eq_false_iff_not]
    exact h
  | _ :: _ :: _, h, _ => cases h
theorem am_cov {hd : List (Nat × Nat × Nat × Nat)} {q : Int32 × Nat} {tb : List (Int32 × Nat)} (htab : c.exceptionTable.toList.map (fun h => (h.startPc, h.endPc, h.handlerPc, h.catchType)) = hd) (h : am_hdchk pc hd (q :: tb) = true) : ∃ x, c.exceptionTable.toList = [x] ∧ covers x pc = true ∧ x.catchType = 12 ∧ x.handlerPc = q.2 ∧ tb = [] := by
  match hd, tb, h with
  | [], _, h => cases h
  | [a], [], h =>
    simp only [am_hdchk, Bool.and_eq_true, decide_eq_true_eq] at h
    obtain ⟨⟨⟨h1, h2⟩, h3⟩, h4⟩ := h
    match hx : c.exceptionTable.toList, htab with
    | [x], htab =>
      simp only [hx, List.map_cons, List.map_nil, List.cons.injEq, and_true] at htab
      subst htab
      exact ⟨x, rfl, by unfold covers; simp only [Bool.and_eq_true, decide_eq_true_eq]; exact ⟨h1, h2⟩, Nat.eq_of_beq_eq_true h4, (Nat.eq_of_beq_eq_true h3).symm, rfl⟩
    | [], htab => cases htab
    | _ :: _ :: _, htab => cases htab
  | [_], _ :: _, h => cases h
  | _ :: _ :: _, _, h => cases h
theorem am_inMet (l : Launch) (x lo hi : Int64) : am_Met l ⟨"BrotliWordsModel", "in", "(JJJ)Z"⟩ am_T ({ frames := 0, cells := 0, slots := 0, locals := 0 }) (fun v _ => v = #[.long x, .long lo, .long hi]) (fun _ st o t => o = .returned (some (.int (if lo ≤ x ∧ x ≤ hi then 1 else 0))) ∧ t.heap = st.heap) 0 0 (fun _ => False) := by
  have hcw : Cond.code ⟨"BrotliWordsModel", "in", "(JJJ)Z"⟩ prog_14_method_2_code 6 (some .boolean) ∈ am_T := am_T_of (k := 1506) (by decide +kernel) rfl
  refine am_ofW (cc := prog_14_method_2_code) (maxL := 6) (ret := some .boolean) (by decide) ?_ ?_
  · intro args s m h hn
    obtain ⟨meth, c, h1, h2, h3, h4, h5, h6, -, -⟩ := Cond.code_spec hn (h _ hcw)
    exact ⟨meth, c, h1, h2, h3, h4, h5, h6⟩
  · intro p e s m args below meth c s₁ B hml hv
    have hx := B.exec
    have hb := B.bytes
    have hr := B.returns
    have hlk := B.notSynchronized
    subst hv
    have hl := lv_entry ([.long x, .long lo, .long hi]) (n := 6) (Nat.le_of_ble_eq_true rfl)
    show W p l e _ s m _ below meth c s.heap [] 0 0 _ (entryFrame m ([Value.long x, .long lo, .long hi] : List Value).toArray 6)
    rw [lg_entry_eq]
    generalize (lg_sl ([.long x, .long lo, .long hi]) ++ List.replicate (6 - (lg_sl ([.long x, .long lo, .long hi])).length) Slot.unset).toArray = ls at hl ⊢
    have hl : lv_has ls 6 [(0, .long x), (2, .long lo), (4, .long hi)] := hl
    have hend : ∀ v : Int32, v = (if lo ≤ x ∧ x ≤ hi then 1 else 0) → W p l e ({ frames := 0, cells := 0, slots := 0, locals := 0 }) s m #[.long x, .long lo, .long hi] below meth c s.heap [] 0 0 (am_MQ below (fun _ st o t => o = .returned (some (.int (if lo ≤ x ∧ x ≤ hi then 1 else 0))) ∧ t.heap = st.heap) #[.long x, .long lo, .long hi] s 0 0 (fun _ => False)) (F0 m 18 ls [.int v]) := by
      intro v hv
      refine am_Wmono am_MQ_of (am_zret hx hb hr (w := v) (by subst hv; by_cases hc : lo ≤ x ∧ x ≤ hi <;> simp [hc] <;> rfl) (fun t ht _ => ⟨by rw [hv], ht⟩) (fun q hq => by cases hq) (show decode prog_14_method_2_code 18 = .ok (.ireturn, 1) by decide +kernel) hlk)
    refine lv_lload_n hx hb (show decode prog_14_method_2_code 0 = .ok (.lload_n 0, 1) by decide +kernel) rfl (lv_at hl 0 rfl) ?_
    refine lv_lload_n hx hb (show decode prog_14_method_2_code 1 = .ok (.lload_n 2, 1) by decide +kernel) rfl (lv_at hl 1 rfl) ?_
    refine W.lcmp hx hb (show decode prog_14_method_2_code 2 = .ok (.lcmp, 1) by decide +kernel) ?_
    refine lv_if_lt (tgt := 17) hx hb (show decode prog_14_method_2_code 3 = .ok (.ifCond .lt 14, 3) by decide +kernel) (by decide) (fun h1 => ?_) (fun h1 => ?_)
    · refine lv_iconst (v := 0) hx hb (show decode prog_14_method_2_code 17 = .ok (.iconst 0, 1) by decide +kernel) (by decide) (hend 0 ?_)
      have h2 := (lg_cmp_lt x lo).mp h1
      rw [if_neg (fun h3 => absurd h3.1 (Int64.not_le.mpr h2))]
    · refine lv_lload_n hx hb (show decode prog_14_method_2_code 6 = .ok (.lload_n 0, 1) by decide +kernel) rfl (lv_at hl 0 rfl) ?_
      refine lv_lload hx hb (show decode prog_14_method_2_code 7 = .ok (.lload 4, 2) by decide +kernel) (lv_at hl 2 rfl) ?_
      refine W.lcmp hx hb (show decode prog_14_method_2_code 9 = .ok (.lcmp, 1) by decide +kernel) ?_
      have h2 : lo ≤ x := Int64.not_lt.mp (fun h3 => h1 ((lg_cmp_lt x lo).mpr h3))
      refine lv_if_gt (tgt := 17) hx hb (show decode prog_14_method_2_code 10 = .ok (.ifCond .gt 7, 3) by decide +kernel) (by decide) (fun h3 => ?_) (fun h3 => ?_)
      · refine lv_iconst (v := 0) hx hb (show decode prog_14_method_2_code 17 = .ok (.iconst 0, 1) by decide +kernel) (by decide) (hend 0 ?_)
        have h4 := (lg_cmp_gt x hi).mp h3
        rw [if_neg (fun h5 => absurd h5.2 (Int64.not_le.mpr h4))]
      · refine lv_iconst (v := 1) hx hb (show decode prog_14_method_2_code 13 = .ok (.iconst 1, 1) by decide +kernel) (by decide) ?_
        refine lv_goto (tgt := 18) hx hb (show decode prog_14_method_2_code 14 = .ok (.goto 4, 3) by decide +kernel) (by decide) (hend 1 ?_)
        have h4 : x ≤ hi := Int64.not_lt.mp (fun h5 => h3 ((lg_cmp_gt x hi).mpr h5))
        rw [if_pos ⟨h2, h4⟩]
/-- the weight of what is left on the stack -/
theorem am_wt {st' : List am_V} (h : st'.length ≤ 4) : ((st'.map (am_cv xa uv f σ)).map fun v => v.category).sum ≤ 8 := by
  have h1 : ∀ v : Value, v.category ≤ 2 := fun v => by cases v <;> simp [Value.category]
  have h2 : ∀ l : List Value, (l.map fun v => v.category).sum ≤ 2 * l.length := by
    intro l
    induction l with
    | nil => simp
    | cons a l ih =>
      have := h1 a
      simp only [List.map_cons, List.sum_cons, List.length_cons]
      omega
  have h3 := h2 (st'.map (am_cv xa uv f σ))
  rw [List.length_map] at h3
  omega
theorem am_s_ireturn {len : Nat} {w : Int32} {a b c9 : Nat} {tb : List (Int32 × Nat)} (h : am_Hyp D aC xa uv X XL z l n y pc ls st σ r (.ireturn, len, w, a, b, c9, tb) p R s m args meth c H locs lsA f f0 n0 sl0) : W p l e R s m args below meth c H locs (ah_n σ - n0) (ah_sl σ - sl0) (am_MQ below (am_Q D aC xa uv z f0 n0 r) args s (ah_n r.2 - n0) (ah_sl r.2 - sl0) (am_A z)) (F0 m pc lsA (st.map (am_cv xa uv f σ))) := by
  have h0 := h
  obtain ⟨ih, hy, ⟨hx, hb, hml, hlk, hts, q0, hq0, hrt, hown, hnm, hfr, hlc, htab⟩, hC, hF, hc1, hc2, hdg, ⟨q, hq, hchk⟩, hrun⟩ := h
  cases hq0.symm.trans hq
  have hgs := hF.2.2.2.2.2.1
  simp only [am_step] at hrun
  simp only [am_rchk, Bool.and_eq_true, decide_eq_true_eq] at hchk
  dsimp only at hdg
  obtain ⟨e1, e2⟩ := hchk
  cases Nat.eq_of_beq_eq_true e1
  split at hrun
  · rename_i x
    cases hrun
    revert e2
    cases hret : q0.2.2.1 with
    | none => intro e2; cases e2
    | some ty =>
      cases ty <;> intro e2 <;> first | (cases e2; done) | skip
      case int =>
        have h3 := Nat.eq_of_beq_eq_true e2
        subst h3
        exact am_Wmono am_MQ_of (am_zret hx hb (hrt.trans hret) (w := x) rfl (fun t ht _ => ⟨⟨f, hF.2.2.2.2.2.2.1, by rw [ht]; exact hF.1, ⟨rfl, trivial, rfl⟩⟩, hF.2.1.F ht⟩) hF.2.1.2.2 hdg hlk)
      case boolean =>
        have h3 := Nat.eq_of_beq_eq_true e2
        subst h3
        exact am_Wmono am_MQ_of (am_zret hx hb (hrt.trans hret) (w := vp_nar .boolean x) rfl (fun t ht _ => ⟨⟨f, hF.2.2.2.2.2.2.1, by rw [ht]; exact hF.1, ⟨rfl, trivial, rfl⟩⟩, hF.2.1.F ht⟩) hF.2.1.2.2 hdg hlk)
  · cases hrun

theorem am_s_areturn {len : Nat} {w : Int32} {a b c9 : Nat} {tb : List (Int32 × Nat)} (h : am_Hyp D aC xa uv X XL z l n y pc ls st σ r (.areturn, len, w, a, b, c9, tb) p R s m args meth c H locs lsA f f0 n0 sl0) : W p l e R s m args below meth c H locs (ah_n σ - n0) (ah_sl σ - sl0) (am_MQ below (am_Q D aC xa uv z f0 n0 r) args s (ah_n r.2 - n0) (ah_sl r.2 - sl0) (am_A z)) (F0 m pc lsA (st.map (am_cv xa uv f σ))) := by
  have h0 := h
  obtain ⟨ih, hy, ⟨hx, hb, hml, hlk, hts, q0, hq0, hrt, hown, hnm, hfr, hlc, htab⟩, hC, hF, hc1, hc2, hdg, ⟨q, hq, hchk⟩, hrun⟩ := h
  cases hq0.symm.trans hq
  have hgs := hF.2.2.2.2.2.1
  simp only [am_step] at hrun
  simp only [am_rchk, Bool.and_eq_true, decide_eq_true_eq] at hchk
  dsimp only at hdg
  obtain ⟨e1, e2⟩ := hchk
  cases Nat.eq_of_beq_eq_true e1
  split at hrun
  · rename_i qq
    cases hrun
    have hvr : am_cv xa uv f σ (.inr (.inr qq)) = .null ∨ ∃ b9, am_cv xa uv f σ (.inr (.inr qq)) = .ref b9 := by
      rcases qq with _ | qq
      · exact Or.inl rfl
      · show am_rv xa uv f σ qq = _ ∨ ∃ b9, am_rv xa uv f σ qq = .ref b9
        unfold am_rv
        cases Nat.blt qq.1 200
        · cases Nat.blt qq.1 220
          · exact hC.2.2.2.2.1 qq.1
          · exact Or.inr ⟨_, rfl⟩
        · exact Or.inr ⟨_, rfl⟩
    revert e2
    cases hret : q0.2.2.1 with
    | none => intro e2; cases e2
    | some ty =>
      cases ty <;> intro e2 <;> first | (cases e2; done) | skip
      case object n9 => exact am_Wmono am_MQ_of (W.aret hx hb (hrt.trans hret) (Or.inl ⟨_, rfl⟩) hvr (fun t ht _ => ⟨⟨f, hF.2.2.2.2.2.2.1, by rw [ht]; exact hF.1, ⟨rfl, hgs.h, rfl⟩⟩, hF.2.1.F ht⟩) hF.2.1.2.2 hdg hlk)
      case array n9 => exact am_Wmono am_MQ_of (W.aret hx hb (hrt.trans hret) (Or.inr ⟨_, rfl⟩) hvr (fun t ht _ => ⟨⟨f, hF.2.2.2.2.2.2.1, by rw [ht]; exact hF.1, ⟨rfl, hgs.h, rfl⟩⟩, hF.2.1.F ht⟩) hF.2.1.2.2 hdg hlk)
  · cases hrun

theorem am_s_return {len : Nat} {w : Int32} {a b c9 : Nat} {tb : List (Int32 × Nat)} (h : am_Hyp D aC xa uv X XL z l n y pc ls st σ r (.return_, len, w, a, b, c9, tb) p R s m args meth c H locs lsA f f0 n0 sl0) : W p l e R s m args below meth c H locs (ah_n σ - n0) (ah_sl σ - sl0) (am_MQ below (am_Q D aC xa uv z f0 n0 r) args s (ah_n r.2 - n0) (ah_sl r.2 - sl0) (am_A z)) (F0 m pc lsA (st.map (am_cv xa uv f σ))) := by
  have h0 := h
  obtain ⟨ih, hy, ⟨hx, hb, hml, hlk, hts, q0, hq0, hrt, hown, hnm, hfr, hlc, htab⟩, hC, hF, hc1, hc2, hdg, ⟨q, hq, hchk⟩, hrun⟩ := h
  cases hq0.symm.trans hq
  have hgs := hF.2.2.2.2.2.1
  simp only [am_step] at hrun
  simp only [am_rchk, Bool.and_eq_true, decide_eq_true_eq] at hchk
  dsimp only at hdg
  obtain ⟨e1, e2⟩ := hchk
  cases Nat.eq_of_beq_eq_true e1
  split at hrun
  · cases hrun
    have hret : q0.2.2.1 = none := by
      revert e2
      cases q0.2.2.1 with
      | none => intro _; rfl
      | some _ => intro e2; cases e2
    exact am_Wmono am_MQ_of (W.vret hx hb (hrt.trans hret) (fun t ht _ => ⟨⟨f, hF.2.2.2.2.2.2.1, by rw [ht]; exact hF.1, rfl⟩, hF.2.1.F ht⟩) hF.2.1.2.2 hdg hlk)
  · cases hrun

theorem am_s_athrow {len : Nat} {w : Int32} {a b c9 : Nat} {tb : List (Int32 × Nat)} (h : am_Hyp D aC xa uv X XL z l n y pc ls st σ r (.athrow, len, w, a, b, c9, tb) p R s m args meth c H locs lsA f f0 n0 sl0) : W p l e R s m args below meth c H locs (ah_n σ - n0) (ah_sl σ - sl0) (am_MQ below (am_Q D aC xa uv z f0 n0 r) args s (ah_n r.2 - n0) (ah_sl r.2 - sl0) (am_A z)) (F0 m pc lsA (st.map (am_cv xa uv f σ))) := by
  have h0 := h
  obtain ⟨ih, hy, ⟨hx, hb, hml, hlk, hts, q0, hq0, hrt, hown, hnm, hfr, hlc, htab⟩, hC, hF, hc1, hc2, hdg, ⟨q, hq, hchk⟩, hrun⟩ := h
  cases hq0.symm.trans hq
  have hgs := hF.2.2.2.2.2.1
  simp only [am_step] at hrun
  simp only [am_rchk, Bool.and_eq_true, decide_eq_true_eq] at hchk
  dsimp only at hdg
  obtain ⟨e1, e2⟩ := hchk
  cases Nat.eq_of_beq_eq_true e1
  split at hrun
  · rename_i t i r9
    cases h2 : Nat.beq t 12 <;> simp only [h2, cond_true, cond_false] at hrun
    · cases hrun
    · cases hrun
      have h3 := Nat.eq_of_beq_eq_true h2
      subst h3
      show W p l e R s m args below meth c H locs _ _ _ (F0 m pc lsA (am_cv xa uv f σ (.inr (.inr (some (12, i)))) :: r9.map (am_cv xa uv f σ)))
      rw [am_cvr (show 12 < 200 by omega)]
      exact am_athrow hx hb hlk (am_uncov htab e2) (fun t ht _ => ⟨⟨f, hF.2.2.2.2.2.2.1, by rw [ht]; exact hF.1, ⟨rfl, rfl, hgs.h⟩⟩, hF.2.1.F ht⟩) hF.2.1.2.2 hdg
  · cases hrun

end AmRet
