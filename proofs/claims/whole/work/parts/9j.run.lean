/-! the constructors read no row that lay there before -/
section RunX
variable {ak : Nat → Nat} {X : Nat → Nat → Int32} {XL : Nat → Nat}
theorem am_in0 (j : Int32) : am_in j (0 - 1) = false := by
  unfold am_in
  have : Nat.blt j.toNatClampNeg (0 - 1) = false := rfl
  rw [this, Bool.and_false]
theorem am_ialdX {σ : am_H} {K : List am_V → am_R} {st : List am_V} {r : am_O × am_H} (h : am_iald ak (fun _ _ => 0) (fun _ => 0) σ K st = some r) : am_iald ak X XL σ K st = some r := by
  unfold am_iald at h ⊢
  split at h
  · rename_i j t i r9
    cases hb : Nat.blt t 200
    · simp only [hb, cond_false, am_in0, Bool.and_false] at h
      cases h
    · simp only [hb, cond_true] at h ⊢
      exact h
  · cases h
theorem am_alenX {σ : am_H} {K : List am_V → am_R} {st : List am_V} {r : am_O × am_H} (h : am_alen ak (fun _ => 0) σ K st = some r) : am_alen ak XL σ K st = some r := by
  unfold am_alen at h ⊢
  split at h
  · rename_i t i r9
    have h00 : Nat.blt 0 0 = false := rfl
    simp only [h00, Bool.and_false, Bool.or_false] at h
    cases hb : Nat.blt t 200
    · simp only [hb, Bool.false_and, cond_false] at h
      cases h
    · have e1 : am_len (fun _ => 0) σ t i = am_len XL σ t i := by unfold am_len; rw [hb]; rfl
      cases h9 : Nat.beq (ak t) 9
      · simp only [hb, h9, Bool.not_false, Bool.and_true, cond_true, e1] at h
        simp only [hb, h9, Bool.not_false, Bool.and_true, Bool.true_or, cond_true]
        exact h
      · simp only [hb, h9, Bool.not_true, Bool.and_false, cond_false] at h
        cases h
  · cases h
theorem am_stepX {K : am_KT} {C : am_CT} {pc : Nat} {ls st : List am_V} {σ : am_H} {row : Option am_Row} {r : am_O × am_H} (h : am_step ak (fun _ _ => 0) (fun _ => 0) K C pc ls st σ row = some r) : am_step ak X XL K C pc ls st σ row = some r := by
  cases row with
  | none => exact h
  | some row =>
    obtain ⟨i, len, w, a, b, c, tb⟩ := row
    cases i with
    | iaload =>
      have h' : am_iald ak (fun _ _ => 0) (fun _ => 0) σ (fun r => K (pc + len) ls r σ) st = some r := h
      exact am_ialdX h'
    | arraylength =>
      have h' : am_alen ak (fun _ => 0) σ (fun r => K (pc + len) ls r σ) st = some r := h
      exact am_alenX h'
    | if_icmp cnd k => cases cnd <;> exact h
    | ifCond cnd k => cases cnd <;> exact h
    | newarray ty => cases ty <;> exact h
    | _ => exact h
theorem am_runX (code : Nat → List (Nat × am_Row)) (ml : Nat → Nat) : ∀ (n y pc : Nat) (ls st : List am_V) (σ : am_H) (r : am_O × am_H), am_run ak (fun _ _ => 0) (fun _ => 0) code ml n y pc ls st σ = some r → am_run ak X XL code ml n y pc ls st σ = some r
  | 0, _, _, _, _, _, _, h => by simp [am_run] at h
  | n + 1, y, pc, ls, st, σ, r, h => by
    refine am_stepX ?_
    rcases am_dst ak (fun _ _ => 0) (fun _ => 0) pc ls st σ (am_look (code y) pc) _ _ r h with ⟨-, h1⟩ | ⟨p, l, s, h9, -, h1, h2⟩ | ⟨y2, as, q, -, h1, h2⟩ | ⟨y2, as, q, p, l, s, h1, h2, h3⟩
    · exact h1 _ _
    · exact h2 _ _ (am_runX code ml n _ _ _ _ _ _ h1)
    · exact h2 _ _ (am_runX code ml n _ _ _ _ _ _ h1)
    · exact h3 _ _ (am_runX code ml n _ _ _ _ _ _ h1) (am_runX code ml n _ _ _ _ _ _ h2)
theorem am_okv_spec {r : am_R} (h : am_okv r = true) (d : am_O × am_H) : r = some (.inl none, (r.getD d).2) := by
  rcases r with _ | ⟨⟨_ | v⟩ | q, σ⟩
  · cases h
  · rfl
  · cases h
  · cases h
theorem am_ml120 : am_ml 120 = 1 := by decide +kernel
theorem am_ml153 : am_ml 153 = 1 := by decide +kernel
theorem am_run1 : am_run am_ak X XL am_code am_ml 4000 120 0 (am_ent (am_ml 120) [av_r 11 0]) [] am_h1 = some (.inl none, am_h2) := by
  refine am_runX am_code am_ml 4000 120 0 _ [] am_h1 _ ?_
  have e := am_okv_spec am_r1_ok (.inl none, am_h1)
  rw [am_ml120]
  unfold am_h2
  unfold am_r1 at e ⊢
  exact e
theorem am_run2 : am_run am_ak X XL am_code am_ml 4000 153 0 (am_ent (am_ml 153) [av_r 13 0]) [] am_h3 = some (.inl none, am_h4) := by
  refine am_runX am_code am_ml 4000 153 0 _ [] am_h3 _ ?_
  have e := am_okv_spec am_r2_ok (.inl none, am_h3)
  rw [am_ml153]
  unfold am_h4
  unfold am_r2 at e ⊢
  exact e
theorem am_cnt2 : am_cnt am_h2 13 = 0 := by decide +kernel
end RunX
