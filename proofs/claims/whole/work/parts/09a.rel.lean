section AmRel
variable (aC : Nat → ClassId) (xa : Nat → Nat) (uv : Nat → Value)
def am_rv (f : Nat → Nat) (σ : am_H) (q : Nat × Nat) : Value := bif Nat.blt q.1 200 then .ref (f (ah_ad σ q.1 q.2)) else bif Nat.blt q.1 220 then .ref (xa q.1) else uv q.1
def am_cv (f : Nat → Nat) (σ : am_H) : am_V → Value
  | .inl x => .int x
  | .inr (.inl x) => .long x
  | .inr (.inr none) => .null
  | .inr (.inr (some q)) => am_rv xa uv f σ q
def am_fv (f : Nat → Nat) (σ : am_H) (t i j : Nat) : Value := bif Nat.beq (am_fk t j) 1 then am_cv xa uv f σ (.inr (.inr (ah_R σ t i j))) else .int (ah_I σ t i j)
def am_ce (f : Nat → Nat) (σ : am_H) (q : Nat × Nat) : va_E := bif Nat.blt q.1 16 then .inr (q.1, (List.range (am_nf q.1)).map (am_fv xa uv f σ q.1 q.2))
  else bif Nat.blt (am_ak q.1) 3 then .inl (aC (am_ak q.1), ah_ln σ q.1 q.2, .inl (ah_I σ q.1 q.2))
  else .inl (aC (am_ak q.1), ah_ln σ q.1 q.2, .inr (.inr (.inr (.inr (fun j => (ah_R σ q.1 q.2 j).map (fun r => f (ah_ad σ r.1 r.2)))))))
def am_ws (f : Nat → Nat) (σ : am_H) : va_W := (List.range (ah_n σ)).map (fun k => (f k, am_ce aC xa uv f σ (ah_al σ k)))
def am_gq (σ : am_H) (q : Nat × Nat) : Prop := (200 ≤ q.1 ∧ ¬ (212 ≤ q.1 ∧ q.1 < 220)) ∨ (q.1 < 200 ∧ ah_ad σ q.1 q.2 < ah_n σ ∧ ah_al σ (ah_ad σ q.1 q.2) = q)
def am_gv (σ : am_H) : am_V → Prop
  | .inr (.inr (some q)) => am_gq σ q
  | _ => True
def am_wf (σ : am_H) : Prop := ∀ k, k < ah_n σ → (ah_al σ k).1 < 200 ∧ ah_ad σ (ah_al σ k).1 (ah_al σ k).2 = k ∧ ((ah_al σ k).1 < 14 ∨ (16 ≤ (ah_al σ k).1 ∧ am_ak (ah_al σ k).1 < 5)) ∧ (ah_al σ k).2 < am_cnt σ (ah_al σ k).1 ∧
  ∀ j r, ah_R σ (ah_al σ k).1 (ah_al σ k).2 j = some r → am_gq σ r ∧ (16 ≤ (ah_al σ k).1 → r.1 < 200)
theorem am_ws_len (f : Nat → Nat) (σ : am_H) : (am_ws aC xa uv f σ).length = ah_n σ := by simp [am_ws]
theorem am_ws_get {f : Nat → Nat} {σ : am_H} {k : Nat} (h : k < ah_n σ) : (am_ws aC xa uv f σ)[k]? = some (f k, am_ce aC xa uv f σ (ah_al σ k)) := by
  simp [am_ws, h]
theorem am_ws_at {f : Nat → Nat} {σ : am_H} {t i : Nat} (h : am_gq σ (t, i)) (ht : t < 200) : (am_ws aC xa uv f σ)[ah_ad σ t i]? = some (f (ah_ad σ t i), am_ce aC xa uv f σ (t, i)) := by
  rcases h with h | ⟨-, h1, h2⟩
  · exact absurd ht (Nat.not_lt.mpr h.1)
  · rw [am_ws_get aC xa uv h1, h2]
/-- a value reads the same over heaps with the same cells -/
theorem am_cv_base {f : Nat → Nat} {σ σ' : am_H} (hb : σ'.1 = σ.1) (v : am_V) : am_cv xa uv f σ' v = am_cv xa uv f σ v := by
  rcases v with x | x | _ | q
  · rfl
  · rfl
  · rfl
  · show am_rv xa uv f σ' q = am_rv xa uv f σ q
    unfold am_rv
    rw [show ah_ad σ' = ah_ad σ from congrArg (fun b : am_B => b.2.2.1) hb]
theorem am_gq_base {σ σ' : am_H} (hb : σ'.1 = σ.1) {q : Nat × Nat} (h : am_gq σ q) : am_gq σ' q := by
  unfold am_gq at h ⊢
  rw [show ah_ad σ' = ah_ad σ from congrArg (fun b : am_B => b.2.2.1) hb, show ah_n σ' = ah_n σ from congrArg (fun b : am_B => b.1) hb, show ah_al σ' = ah_al σ from congrArg (fun b : am_B => b.2.1) hb]
  exact h
theorem am_gv_base {σ σ' : am_H} (hb : σ'.1 = σ.1) {v : am_V} (h : am_gv σ v) : am_gv σ' v := by
  rcases v with x | x | _ | q
  · trivial
  · trivial
  · trivial
  · exact am_gq_base hb h
theorem am_cnt_base {σ σ' : am_H} (hb : σ'.1 = σ.1) (t : Nat) : am_cnt σ' t = am_cnt σ t := by
  unfold am_cnt
  rw [hb]
/-- the cells, where one of them has changed -/
theorem am_ws_set {f : Nat → Nat} {σ σ' : am_H} {t i : Nat} (hwf : am_wf σ) (hg : am_gq σ (t, i)) (ht : t < 200) (hb : σ'.1 = σ.1)
    (hI : ∀ t' i', ¬ (t' = t ∧ i' = i) → ah_I σ' t' i' = ah_I σ t' i') (hR : ∀ t' i', ¬ (t' = t ∧ i' = i) → ah_R σ' t' i' = ah_R σ t' i') :
    am_ws aC xa uv f σ' = (am_ws aC xa uv f σ).set (ah_ad σ t i) (f (ah_ad σ t i), am_ce aC xa uv f σ' (t, i)) := by
  have hn : ah_n σ' = ah_n σ := congrArg (fun b : am_B => b.1) hb
  have hal : ah_al σ' = ah_al σ := congrArg (fun b : am_B => b.2.1) hb
  have had : ah_ad σ' = ah_ad σ := congrArg (fun b : am_B => b.2.2.1) hb
  have hln : ah_ln σ' = ah_ln σ := congrArg (fun b : am_B => b.2.2.2.1) hb
  rcases hg with hg | ⟨-, h1, h2⟩
  · exact absurd ht (Nat.not_lt.mpr hg.1)
  refine List.ext_getElem? fun k => ?_
  by_cases hk : k < ah_n σ
  · rw [am_ws_get aC xa uv (by rw [hn]; exact hk), hal]
    by_cases he : k = ah_ad σ t i
    · subst he
      rw [List.getElem?_set_self (by rw [am_ws_len]; exact h1), h2]
    · rw [List.getElem?_set_ne (fun e => he e.symm), am_ws_get aC xa uv hk]
      have hne : ¬ ((ah_al σ k).1 = t ∧ (ah_al σ k).2 = i) := by
        intro ⟨e1, e2⟩
        have h3 := (hwf k hk).2.1
        rw [e1, e2] at h3
        exact he h3.symm
      have e1 := hI _ _ hne
      have e2 := hR _ _ hne
      have e3 : am_ce aC xa uv f σ' (ah_al σ k) = am_ce aC xa uv f σ (ah_al σ k) := by
        unfold am_ce
        rw [e1, e2, had, hln]
        congr 3
        refine List.map_congr_left fun j _ => ?_
        unfold am_fv
        rw [e1, e2, am_cv_base xa uv hb]
      rw [e3]
  · rw [List.getElem?_eq_none (by rw [am_ws_len, hn]; exact Nat.not_lt.mp hk), List.getElem?_eq_none (by rw [List.length_set, am_ws_len]; exact Nat.not_lt.mp hk)]
theorem am_wf_I {σ : am_H} (hwf : am_wf σ) (t i j : Nat) (x : Int32) : am_wf (am_sI σ t i j x) := hwf
theorem am_wf_R {σ : am_H} (hwf : am_wf σ) {t i j : Nat} {x : Option (Nat × Nat)} (hx : ∀ r, x = some r → am_gq σ r ∧ (16 ≤ t → r.1 < 200)) : am_wf (am_sR σ t i j x) := by
  intro k hk
  obtain ⟨h1, h2, h3, h4, h5⟩ := hwf k hk
  refine ⟨h1, h2, h3, h4, fun j' r hr => ?_⟩
  have hr2 : am_c σ.2.2 t i (am_u (σ.2.2 t i) j x) (ah_al σ k).1 (ah_al σ k).2 j' = some r := hr
  by_cases hq : (ah_al σ k).1 = t ∧ (ah_al σ k).2 = i
  · rw [am_c, if_pos hq, am_u] at hr2
    by_cases hj : j' = j
    · rw [if_pos hj] at hr2
      obtain ⟨a, b⟩ := hx r hr2
      exact ⟨am_gq_base rfl a, fun h => b (by rw [← hq.1]; exact h)⟩
    · rw [if_neg hj] at hr2
      obtain ⟨a, b⟩ := h5 j' r (by rw [hq.1, hq.2]; exact hr2)
      exact ⟨am_gq_base rfl a, b⟩
  · rw [am_c, if_neg hq] at hr2
    obtain ⟨a, b⟩ := h5 j' r hr2
    exact ⟨am_gq_base rfl a, b⟩
theorem am_cnt_mk (σ : am_H) (t n t' : Nat) : am_cnt (am_mk σ t n) t' = am_cnt σ t' + (if t' = t then 1 else 0) := by
  show am_u σ.1.2.2.2.2.2 t (am_cnt σ t + 1) t' = _
  unfold am_u
  by_cases h : t' = t
  · rw [if_pos h, if_pos h, h]
  · rw [if_neg h, if_neg h]; rfl
/-- a new cell is no old one -/
theorem am_fresh {σ : am_H} (hwf : am_wf σ) {t : Nat} {k : Nat} (hk : k < ah_n σ) : ¬ ((ah_al σ k).1 = t ∧ (ah_al σ k).2 = am_cnt σ t) := by
  intro ⟨h1, h2⟩
  have h3 := (hwf k hk).2.2.2.1
  rw [h1, h2] at h3
  exact Nat.lt_irrefl _ h3
theorem am_gq_mk {σ : am_H} (hwf : am_wf σ) {t n : Nat} {q : Nat × Nat} (h : am_gq σ q) : am_gq (am_mk σ t n) q ∧ (q.1 < 200 → ah_ad (am_mk σ t n) q.1 q.2 = ah_ad σ q.1 q.2) := by
  rcases h with h | ⟨h0, h1, h2⟩
  · exact ⟨Or.inl h, fun h9 => absurd h9 (Nat.not_lt.mpr h.1)⟩
  · have hne : ¬ (q.1 = t ∧ q.2 = am_cnt σ t) := by
      have := am_fresh hwf (t := t) h1
      rw [h2] at this
      exact this
    have had : ah_ad (am_mk σ t n) q.1 q.2 = ah_ad σ q.1 q.2 := by
      show am_c (ah_ad σ) t (am_cnt σ t) (ah_n σ) q.1 q.2 = _
      rw [am_c, if_neg hne]
    refine ⟨Or.inr ⟨h0, ?_, ?_⟩, fun _ => had⟩
    · rw [had]; exact Nat.lt_succ_of_lt h1
    · rw [had]
      show am_u (ah_al σ) (ah_n σ) (t, am_cnt σ t) (ah_ad σ q.1 q.2) = q
      rw [am_u, if_neg (Nat.ne_of_lt h1), h2]
theorem am_gq_new {σ : am_H} {t n : Nat} (ht : t < 200) : am_gq (am_mk σ t n) (t, am_cnt σ t) ∧ ah_ad (am_mk σ t n) t (am_cnt σ t) = ah_n σ := by
  have had : ah_ad (am_mk σ t n) t (am_cnt σ t) = ah_n σ := by
    show am_c (ah_ad σ) t (am_cnt σ t) (ah_n σ) t (am_cnt σ t) = _
    rw [am_c, if_pos ⟨rfl, rfl⟩]
  refine ⟨Or.inr ⟨ht, ?_, ?_⟩, had⟩
  · show ah_ad (am_mk σ t n) t (am_cnt σ t) < _
    rw [had]; exact Nat.lt_succ_self _
  · show ah_al (am_mk σ t n) (ah_ad (am_mk σ t n) t (am_cnt σ t)) = _
    rw [had]
    show am_u (ah_al σ) (ah_n σ) (t, am_cnt σ t) (ah_n σ) = _
    rw [am_u, if_pos rfl]
theorem am_cv_mk {f : Nat → Nat} {σ : am_H} (hwf : am_wf σ) {t n a : Nat} {v : am_V} (h : am_gv σ v) : am_cv xa uv (am_u f (ah_n σ) a) (am_mk σ t n) v = am_cv xa uv f σ v := by
  rcases v with x | x | _ | q
  · rfl
  · rfl
  · rfl
  · show am_rv xa uv _ _ q = am_rv xa uv f σ q
    unfold am_rv
    cases hq : Nat.blt q.1 200
    · rfl
    · have hlt : q.1 < 200 := Nat.le_of_ble_eq_true hq
      obtain ⟨-, h2⟩ := am_gq_mk hwf (t := t) (n := n) (h : am_gq σ q)
      rw [h2 hlt]
      rcases (h : am_gq σ q) with h3 | ⟨-, h3, -⟩
      · exact absurd hlt (Nat.not_lt.mpr h3.1)
      · simp only [cond_true]
        rw [am_u, if_neg (Nat.ne_of_lt h3)]
theorem am_ws_mk {f : Nat → Nat} {σ : am_H} (hwf : am_wf σ) {t n a : Nat} : am_ws aC xa uv (am_u f (ah_n σ) a) (am_mk σ t n) = am_ws aC xa uv f σ ++ [(a, am_ce aC xa uv (am_u f (ah_n σ) a) (am_mk σ t n) (t, am_cnt σ t))] := by
  have hn : ah_n (am_mk σ t n) = ah_n σ + 1 := rfl
  unfold am_ws
  rw [hn, List.range_succ, List.map_append]
  congr 1
  · refine List.map_congr_left fun k hk => ?_
    have hk2 : k < ah_n σ := List.mem_range.mp hk
    have hal : ah_al (am_mk σ t n) k = ah_al σ k := by
      show am_u (ah_al σ) (ah_n σ) (t, am_cnt σ t) k = _
      rw [am_u, if_neg (Nat.ne_of_lt hk2)]
    rw [hal, am_u, if_neg (Nat.ne_of_lt hk2)]
    have hne := am_fresh hwf (t := t) hk2
    have eI : ah_I (am_mk σ t n) (ah_al σ k).1 (ah_al σ k).2 = ah_I σ (ah_al σ k).1 (ah_al σ k).2 := by
      show am_c (ah_I σ) t (am_cnt σ t) (fun _ => 0) _ _ = _
      rw [am_c, if_neg hne]
    have eR : ah_R (am_mk σ t n) (ah_al σ k).1 (ah_al σ k).2 = ah_R σ (ah_al σ k).1 (ah_al σ k).2 := by
      show am_c (ah_R σ) t (am_cnt σ t) (fun _ => none) _ _ = _
      rw [am_c, if_neg hne]
    have eL : ah_ln (am_mk σ t n) (ah_al σ k).1 (ah_al σ k).2 = ah_ln σ (ah_al σ k).1 (ah_al σ k).2 := by
      show am_c (ah_ln σ) t (am_cnt σ t) n _ _ = _
      rw [am_c, if_neg hne]
    have hw5 := (hwf k hk2).2.2.2.2
    have e3 : am_ce aC xa uv (am_u f (ah_n σ) a) (am_mk σ t n) (ah_al σ k) = am_ce aC xa uv f σ (ah_al σ k) := by
      unfold am_ce
      rw [eI, eR, eL]
      cases h16 : Nat.blt (ah_al σ k).1 16
      · simp only [cond_false]
        have hge : 16 ≤ (ah_al σ k).1 := by
          rcases Nat.lt_or_ge (ah_al σ k).1 16 with h | h
          · rw [show Nat.blt (ah_al σ k).1 16 = true from Nat.ble_eq_true_of_le h] at h16; cases h16
          · exact h
        cases h3 : Nat.blt (am_ak (ah_al σ k).1) 3
        · simp only [cond_false]
          congr 7
          funext j
          cases hr : ah_R σ (ah_al σ k).1 (ah_al σ k).2 j with
          | none => rfl
          | some r =>
            obtain ⟨g1, g2⟩ := hw5 j r hr
            obtain ⟨-, g3⟩ := am_gq_mk hwf (t := t) (n := n) g1
            simp only [Option.map_some]
            rw [g3 (g2 hge)]
            rcases g1 with h | ⟨-, h, -⟩
            · exact absurd (g2 hge) (Nat.not_lt.mpr h.1)
            · rw [am_u, if_neg (Nat.ne_of_lt h)]
        · rfl
      · simp only [cond_true]
        congr 2
        refine List.map_congr_left fun j _ => ?_
        unfold am_fv
        rw [eI, eR]
        cases hr : ah_R σ (ah_al σ k).1 (ah_al σ k).2 j with
        | none => rfl
        | some r => rw [am_cv_mk xa uv hwf (show am_gv σ (.inr (.inr (some r))) from (hw5 j r hr).1)]
    rw [e3]
  · have h3 : ah_al (am_mk σ t n) (ah_n σ) = (t, am_cnt σ t) := by
      show (am_u (ah_al σ) (ah_n σ) (t, am_cnt σ t)) (ah_n σ) = _
      rw [am_u, if_pos rfl]
    simp only [List.map_cons, List.map_nil]
    rw [h3, am_u, if_pos rfl]
theorem am_wf_mk {σ : am_H} (hwf : am_wf σ) {t n : Nat} (ht : t < 14 ∨ (16 ≤ t ∧ t < 200 ∧ am_ak t < 5)) : am_wf (am_mk σ t n) := by
  intro k hk
  have hk2 : k < ah_n σ + 1 := hk
  by_cases he : k = ah_n σ
  · subst he
    have hal : ah_al (am_mk σ t n) (ah_n σ) = (t, am_cnt σ t) := by
      show (am_u (ah_al σ) (ah_n σ) (t, am_cnt σ t)) (ah_n σ) = _
      rw [am_u, if_pos rfl]
    rw [hal]
    have ht2 : t < 200 := by omega
    refine ⟨ht2, (am_gq_new ht2).2, ?_, ?_, fun j r hr => ?_⟩
    · rcases ht with h | h
      · exact Or.inl h
      · exact Or.inr ⟨h.1, h.2.2⟩
    · rw [am_cnt_mk, if_pos rfl]; exact Nat.lt_succ_self _
    · have hr2 : am_c (ah_R σ) t (am_cnt σ t) (fun _ => none) t (am_cnt σ t) j = some r := hr
      rw [am_c, if_pos ⟨rfl, rfl⟩] at hr2
      cases hr2
  · have hk3 : k < ah_n σ := by omega
    have hal : ah_al (am_mk σ t n) k = ah_al σ k := by
      show am_u (ah_al σ) (ah_n σ) (t, am_cnt σ t) k = _
      rw [am_u, if_neg he]
    obtain ⟨h1, h2, h3, h4, h5⟩ := hwf k hk3
    have hne := am_fresh hwf (t := t) hk3
    rw [hal]
    refine ⟨h1, ?_, h3, ?_, fun j r hr => ?_⟩
    · show am_c (ah_ad σ) t (am_cnt σ t) (ah_n σ) _ _ = _
      rw [am_c, if_neg hne]; exact h2
    · rw [am_cnt_mk]; omega
    · have hr2 : am_c (ah_R σ) t (am_cnt σ t) (fun _ => none) (ah_al σ k).1 (ah_al σ k).2 j = some r := hr
      rw [am_c, if_neg hne] at hr2
      obtain ⟨a, b⟩ := h5 j r hr2
      exact ⟨(am_gq_mk hwf a).1, b⟩
/-- what was there is there, at its place -/
def am_ex (σ0 σ : am_H) : Prop := ∀ x, am_gq σ0 x → am_gq σ x ∧ (x.1 < 200 → ah_ad σ x.1 x.2 = ah_ad σ0 x.1 x.2)
theorem am_ex_rf (σ : am_H) : am_ex σ σ := fun _ h => ⟨h, fun _ => rfl⟩
theorem am_ex_tr {σ0 σ σ' : am_H} (h : am_ex σ0 σ) (h2 : am_ex σ σ') : am_ex σ0 σ' := fun x hx => ⟨(h2 x (h x hx).1).1, fun ht => ((h2 x (h x hx).1).2 ht).trans ((h x hx).2 ht)⟩
theorem am_ex_base {σ σ' : am_H} (hb : σ'.1 = σ.1) : am_ex σ σ' := fun x hx => ⟨am_gq_base hb hx, fun _ => by rw [show ah_ad σ' = ah_ad σ from congrArg (fun b : am_B => b.2.2.1) hb]⟩
theorem am_ex_mk {σ : am_H} (hwf : am_wf σ) (t n : Nat) : am_ex σ (am_mk σ t n) := fun _ hx => am_gq_mk hwf hx
theorem am_cv_ex {f f' : Nat → Nat} {σ σ' : am_H} (h : am_ex σ σ') (hf : ∀ k, k < ah_n σ → f' k = f k) {v : am_V} (hv : am_gv σ v) : am_cv xa uv f' σ' v = am_cv xa uv f σ v := by
  rcases v with x | x | _ | q
  · rfl
  · rfl
  · rfl
  · show am_rv xa uv f' σ' q = am_rv xa uv f σ q
    unfold am_rv
    cases hq : Nat.blt q.1 200
    · rfl
    · have hlt : q.1 < 200 := Nat.le_of_ble_eq_true hq
      have hv2 : am_gq σ q := hv
      rcases id hv2 with h3 | ⟨-, h3, -⟩
      · exact absurd hlt (Nat.not_lt.mpr h3.1)
      · simp only [cond_true]
        rw [(h q hv2).2 hlt, hf _ h3]
theorem am_gv_ex {σ σ' : am_H} (h : am_ex σ σ') {v : am_V} (hv : am_gv σ v) : am_gv σ' v := by
  rcases v with x | x | _ | q
  · trivial
  · trivial
  · trivial
  · exact (h q hv).1
end AmRel
