/-- what is known of a method that may be called -/
theorem am_md_spec {y : Nat} (hy : y < 264) : ∃ nm mx rt o fr lc hd k, am_md[y]? = some (nm, mx, rt, o, fr, lc, hd) ∧ am_mk_ y = k ∧ nm.cls = am_ow o ∧ plainName nm.cls = true ∧ mx = am_ml y ∧ (nm.cls ≠ "java/lang/invoke/MethodHandle" ∧ nm.cls ≠ "java/lang/invoke/VarHandle") ∧ k ≠ 3 ∧
    ((hd = [] ∧ Cond.code nm (am_by y) mx rt ∈ am_T) ∨ (k = 0 ∧ Cond.codeWith nm (am_by y) mx rt hd ∈ am_T)) ∧ Cond.initialized nm.cls ∈ am_T ∧ (k = 1 → Cond.static nm ∈ am_T) ∧ (k = 2 → Cond.instanceMethod nm ∈ am_T ∧ nm.name = "<init>" ∧ rt = none) ∧ (k = 0 → Cond.instanceMethod nm ∈ am_T ∧ Cond.selects nm.cls nm nm ∈ am_T) := by
  have h := am_md_all (y := y) (by omega)
  unfold am_mdchk at h
  cases hm : am_md[y]? with
  | none => simp [hm] at h
  | some q =>
    obtain ⟨nm, mx, rt, o, fr, lc, hd⟩ := q
    cases hp : am_mp[y]? with
    | none => simp [hm, hp] at h
    | some w =>
      obtain ⟨k, p1, p2, p3, p4⟩ := w
      simp only [hm, hp, Bool.and_eq_true, decide_eq_true_eq] at h
      obtain ⟨⟨⟨⟨⟨h1, h2⟩, h3⟩, h4⟩, h5⟩, h6⟩ := h
      have hk3 : Nat.beq k 3 = false := by
        cases hb : Nat.beq k 3
        · rfl
        · rw [hb] at h6
          simp only [cond_true] at h6
          have := Nat.eq_of_beq_eq_true h6
          have h9 : am_law = 264 := rfl
          omega
      simp only [hk3, cond_false, Bool.and_eq_true, decide_eq_true_eq] at h6
      obtain ⟨⟨⟨h7, h8⟩, h9⟩, h10⟩ := h6
      have hne : Nat.beq y am_law = false := by simpa using h7
      have hby : ∀ w : Cond, lw_tbl[p1]? = some w → am_by y = (match w with
          | .code _ b _ _ => b
          | .codeWith _ b _ _ _ => b
          | _ => ByteArray.empty) := by
        intro w hw
        unfold am_by am_cw
        rw [hne, hp]
        simp only [cond_false, Option.bind_some, hw]
        cases w <;> rfl
      refine ⟨nm, mx, rt, o, fr, lc, hd, k, rfl, by unfold am_mk_; rw [hp]; rfl, h1, h2, Nat.eq_of_beq_eq_true h3, ⟨h4, h5⟩, (fun e => by rw [e] at hk3; cases hk3), ?_, am_T_of h9 rfl, fun e => ?_, fun e => ?_, fun e => ?_⟩
      · cases hw : lw_tbl[p1]? with
        | none => simp [hw] at h8
        | some w =>
          rw [hw] at h8
          have hby2 := hby w hw
          cases w with
          | code n2 b2 m2 r2 =>
            simp only [Bool.and_eq_true, decide_eq_true_eq] at h8
            obtain ⟨⟨⟨g1, g2⟩, g3⟩, g4⟩ := h8
            have g2 := Nat.eq_of_beq_eq_true g2
            subst g1; subst g2; subst g3
            refine Or.inl ⟨by simpa using g4, ?_⟩
            rw [hby2]
            exact am_T_of hw rfl
          | codeWith n2 b2 m2 r2 h2 =>
            simp only [Bool.and_eq_true, decide_eq_true_eq] at h8
            obtain ⟨⟨⟨⟨g1, g2⟩, g3⟩, g4⟩, g5⟩ := h8
            have g2 := Nat.eq_of_beq_eq_true g2
            subst g1; subst g2; subst g3; subst g4
            refine Or.inr ⟨Nat.eq_of_beq_eq_true g5, ?_⟩
            rw [hby2]
            exact am_T_of hw rfl
          | _ => cases h8
      · subst e
        simp only [show Nat.beq 1 1 = true from rfl, cond_true, decide_eq_true_eq] at h10
        exact am_T_of h10 rfl
      · subst e
        simp only [show Nat.beq 2 1 = false from rfl, show Nat.beq 2 2 = true from rfl, cond_true, cond_false, Bool.and_eq_true, decide_eq_true_eq] at h10
        exact ⟨am_T_of h10.1.1 rfl, h10.1.2, h10.2⟩
      · subst e
        simp only [show Nat.beq 0 1 = false from rfl, show Nat.beq 0 2 = false from rfl, cond_false, Bool.and_eq_true, decide_eq_true_eq] at h10
        exact ⟨am_T_of h10.1.1.1 rfl, am_T_of h10.1.1.2 rfl⟩
/-- its code, where the words hold -/
theorem am_his {y : Nat} (hy : y < 264) {args : Array Value} {s : State} {m : MethodId} {q : MethodName × Nat × Option FieldType × Nat × Nat × Nat × List (Nat × Nat × Nat × Nat)} (hq : am_md[y]? = some q) (hts : ∀ w ∈ am_T, w.before args s = true) (hn : s.methodNamed? q.1 = some m) :
    ∃ meth c, s.vm.method? m = some meth ∧ meth.code = some c ∧ c.code = am_by y ∧ c.maxLocals = am_ml y ∧ meth.sig.returnType = q.2.2.1 ∧ meth.locks = false ∧ c.exceptionTable.toList.map (fun h => (h.startPc, h.endPc, h.handlerPc, h.catchType)) = q.2.2.2.2.2.2 ∧ parseMethodDescriptor q.1.desc = some meth.sig := by
  obtain ⟨nm, mx, rt, o, fr, lc, hd, k, h1, -, -, -, h4, -, -, h6, -⟩ := am_md_spec hy
  cases hq.symm.trans h1
  dsimp only at hn ⊢
  rcases h6 with ⟨h6, h7⟩ | ⟨-, h7⟩
  · obtain ⟨meth, c, g1, g2, g3, g4, g5, g6, g7, g8⟩ := Cond.code_spec hn (hts _ h7)
    refine ⟨meth, c, g1, g2, g3, g4.trans h4, g5, g6, ?_, g8⟩
    rw [h6]
    have g9 : c.exceptionTable.toList = [] := by
      have : c.exceptionTable = #[] := Array.isEmpty_iff.mp g7
      rw [this]
    rw [g9]; rfl
  · obtain ⟨m9, meth, c, g0, g1, g2, g3, g4, g5, g6, g7, g8⟩ := Cond.codeWith_spec (hts _ h7)
    cases hn.symm.trans g0
    exact ⟨meth, c, g1, g2, g3, g4.trans h4, g6, g7, g5, g8⟩
theorem am_args_at : ∀ (vs : List Value) (k i : Nat) (v : Value), (∀ w ∈ vs, w.category = 1) → vs[i]? = some v → (k + i, v) ∈ lv_args k vs
  | [], _, _, _, _, h => by simp at h
  | w :: vs, k, 0, v, hc, h => by
    simp at h
    subst h
    exact List.mem_cons_self
  | w :: vs, k, i + 1, v, hc, h => by
    have h1 : w.category = 1 := hc w List.mem_cons_self
    have h2 := am_args_at vs (k + 1) i v (fun x hx => hc x (List.mem_cons_of_mem _ hx)) (by simpa using h)
    show (k + (i + 1), v) ∈ (k, w) :: lv_args (if w.category = 2 then k + 2 else k + 1) vs
    rw [if_neg (by omega)]
    refine List.mem_cons_of_mem _ ?_
    rw [show k + (i + 1) = k + 1 + i by omega]
    exact h2
theorem am_sl_len : ∀ (vs : List Value), (∀ w ∈ vs, w.category = 1) → (lg_sl vs).length = vs.length
  | [], _ => rfl
  | w :: vs, hc => by
    have h1 : w.category = 1 := hc w List.mem_cons_self
    have h2 := am_sl_len vs (fun x hx => hc x (List.mem_cons_of_mem _ hx))
    unfold lg_sl at h2 ⊢
    rw [List.flatMap_cons, List.length_append, h2, if_neg (by omega)]
    simp
    omega
section AmCall
variable {D : va_G} {aC : Nat → ClassId} {xa : Nat → Nat} {uv : Nat → Value} {X : Nat → Nat → Int32} {XL : Nat → Nat} {z : Nat}
/-- what a call is entered with -/
def am_Pc (D : va_G) (aC : Nat → ClassId) (xa : Nat → Nat) (uv : Nat → Value) (X : Nat → Nat → Int32) (XL : Nat → Nat) (z : Nat) (f : Nat → Nat) (as : List am_V) (σ : am_H) : Array Value → State → Prop := fun v U => v = (as.map (am_cv xa uv f σ)).toArray ∧ am_Cx D aC xa uv X XL z U U.heap ∧ am_Hr D aC xa uv z f σ U.heap ∧ am_gl σ as
theorem am_metOf {l : Launch} {n : Nat} (hS : am_Sim D aC xa uv X XL z l n) {y : Nat} (hy : y < 264) {as : List am_V} {σ : am_H} {r : am_O × am_H} (hr : am_run am_ak X XL am_code am_ml n y 0 (am_ent (am_ml y) as) [] σ = some r) (f : Nat → Nat) (hnl : as.all am_nl = true) (hlen : as.length ≤ am_ml y) :
    am_Met l (am_nm y) am_T ({ frames := am_fr y, cells := ah_n r.2 - ah_n σ, slots := ah_sl r.2 - ah_sl σ, locals := am_lc y }) (am_Pc D aC xa uv X XL z f as σ) (am_Q D aC xa uv z (f, σ) (ah_n σ) r) (ah_n r.2 - ah_n σ) (ah_sl r.2 - ah_sl σ) (am_A z) := by
  obtain ⟨nm, mx, rt, o, fr, lc, hd, k, h1, -, h3, h4, h5, -⟩ := am_md_spec hy
  have hnm : am_nm y = nm := by unfold am_nm; rw [h1]; rfl
  have hfr : am_fr y = fr := by unfold am_fr; rw [h1]; rfl
  have hlc : am_lc y = lc := by unfold am_lc; rw [h1]; rfl
  rw [hnm]
  refine am_ofW (cc := am_by y) (maxL := am_ml y) (ret := rt) h4 ?_ ?_
  · intro args s m h hn
    obtain ⟨meth, c, g1, g2, g3, g4, g5, g6, -, -⟩ := am_his hy h1 h hn
    exact ⟨meth, c, g1, g2, g3, g4, g5, g6⟩
  · intro p e s m args below meth c s₁ B hml hv
    obtain ⟨hv, hC, hH, hg⟩ := hv
    subst hv
    have hts := atoms_spec (ws := am_T) B.pre
    obtain ⟨meth2, c2, g1, g2, g3, g4, g5, g6, g7, g8⟩ := am_his hy h1 hts B.named
    cases B.method.symm.trans g1
    cases (Stand.of_body B).code.symm.trans g2
    have hcat : ∀ w ∈ as.map (am_cv xa uv f σ), w.category = 1 := by
      intro w hw
      obtain ⟨v, hv, rfl⟩ := List.mem_map.mp hw
      exact am_cat1 xa uv hC.2.2.2.2.1 (List.all_eq_true.mp hnl v hv)
    have hsl := am_sl_len _ hcat
    have hl := lv_entry (as.map (am_cv xa uv f σ)) (n := am_ml y) (by rw [hsl, List.length_map]; exact hlen)
    rw [lg_entry_eq]
    generalize (lg_sl (as.map (am_cv xa uv f σ)) ++ List.replicate (am_ml y - (lg_sl (as.map (am_cv xa uv f σ))).length) Slot.unset).toArray = lsA at hl ⊢
    have helen : (am_ent (am_ml y) as).length = am_ml y := by
      unfold am_ent
      rw [List.length_append, List.length_replicate]
      omega
    have hls : am_ls xa uv f σ (am_ent (am_ml y) as) lsA := by
      refine ⟨hl.1.trans helen.symm, hl.2.1, fun i v hi hn => ?_⟩
      unfold am_ent at hi
      by_cases hlt : i < as.length
      · rw [List.getElem?_append_left hlt] at hi
        have h9 := am_args_at (as.map (am_cv xa uv f σ)) 0 i (am_cv xa uv f σ v) hcat (by rw [List.getElem?_map, hi]; rfl)
        rw [Nat.zero_add] at h9
        exact hl.2.2 _ h9
      · rw [List.getElem?_append_right (Nat.not_lt.mp hlt)] at hi
        have h9 := List.eq_of_mem_replicate (List.mem_of_getElem? hi)
        subst h9
        cases hn
    have hgl : am_gl σ (am_ent (am_ml y) as) := by
      intro v hv
      unfold am_ent at hv
      rcases List.mem_append.mp hv with h9 | h9
      · exact hg v h9
      · rw [List.eq_of_mem_replicate h9]; trivial
    have hW := hS y 0 (am_ent (am_ml y) as) [] σ r hr (by omega) p e ({ frames := am_fr y, cells := ah_n r.2 - ah_n σ, slots := ah_sl r.2 - ah_sl σ, locals := am_lc y }) s m (as.map (am_cv xa uv f σ)).toArray below meth c s.heap [] lsA f (f, σ) (ah_n σ) (ah_sl σ)
      ⟨B.exec, B.bytes, hml, B.notSynchronized, hts, _, h1, B.returns, by rw [← h3]; exact findClass_of_methodNamed B.named, (name_of_methodNamed B.named B.method).1, by show fr ≤ am_fr y; omega, by show lc ≤ am_lc y; omega, g7⟩ hC
      ⟨hH, va_S.rf, hls, helen, hgl, (fun _ h9 => by cases h9), ⟨am_ex_rf σ, fun _ _ => rfl⟩, Nat.le_refl _, Nat.le_refl _⟩ (Nat.le_refl _) (Nat.le_refl _)
    rw [Nat.sub_self, Nat.sub_self] at hW
    exact hW
theorem am_Pc_blind {f : Nat → Nat} {as : List am_V} {σ : am_H} : FrameBlind (am_Pc D aC xa uv X XL z f as σ) := fun a U g mk h => ⟨h.1, am_Cx_blind D aC xa uv X XL z h.2.1, h.2.2.1, h.2.2.2⟩
end AmCall
