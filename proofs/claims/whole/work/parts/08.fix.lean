section AmFix
variable (ak : Nat → Nat) (X : Nat → Nat → Int32) (XL : Nat → Nat) (code : Nat → List (Nat × am_Row)) (ml : Nat → Nat)
theorem am_mono1 : ∀ (n y pc : Nat) (ls st : List am_V) (σ : am_H) (r : am_O × am_H), am_run ak X XL code ml n y pc ls st σ = some r → am_run ak X XL code ml (n + 1) y pc ls st σ = some r
  | 0, _, _, _, _, _, _, h => by simp [am_run] at h
  | n + 1, y, pc, ls, st, σ, r, h => by
    rcases am_dst ak X XL pc ls st σ (am_look (code y) pc) _ _ r h with ⟨-, h1⟩ | ⟨p, l, s, h9, -, h1, h2⟩ | ⟨y2, as, q, -, h1, h2⟩ | ⟨y2, as, q, p, l, s, h1, h2, h3⟩
    · exact h1 _ _
    · exact h2 _ _ (am_mono1 n _ _ _ _ _ _ h1)
    · exact h2 _ _ (am_mono1 n _ _ _ _ _ _ h1)
    · exact h3 _ _ (am_mono1 n _ _ _ _ _ _ h1) (am_mono1 n _ _ _ _ _ _ h2)
theorem am_mono {n m : Nat} (hnm : n ≤ m) {y pc : Nat} {ls st : List am_V} {σ : am_H} {r : am_O × am_H} (h : am_run ak X XL code ml n y pc ls st σ = some r) : am_run ak X XL code ml m y pc ls st σ = some r := by
  induction hnm with
  | refl => exact h
  | step _ ih => exact am_mono1 ak X XL code ml _ _ _ _ _ _ _ ih
noncomputable def am_res (y pc : Nat) (ls st : List am_V) (σ : am_H) : am_R :=
  @dite _ (∃ r, ∃ n, am_run ak X XL code ml n y pc ls st σ = some r) (Classical.propDecidable _) (fun h => some h.choose) (fun _ => none)
theorem am_res_of {n y pc : Nat} {ls st : List am_V} {σ : am_H} {r : am_O × am_H} (h : am_run ak X XL code ml n y pc ls st σ = some r) : am_res ak X XL code ml y pc ls st σ = some r := by
  unfold am_res
  rw [dif_pos ⟨r, n, h⟩]
  have h1 := (⟨r, n, h⟩ : ∃ r, ∃ n, am_run ak X XL code ml n y pc ls st σ = some r).choose_spec
  obtain ⟨m, h2⟩ := h1
  have h3 := am_mono ak X XL code ml (Nat.le_max_left n m) h
  have h4 := am_mono ak X XL code ml (Nat.le_max_right n m) h2
  rw [h3] at h4
  exact h4.symm
theorem am_res_run {y pc : Nat} {ls st : List am_V} {σ : am_H} {r : am_O × am_H} (h : am_res ak X XL code ml y pc ls st σ = some r) : ∃ n, am_run ak X XL code ml n y pc ls st σ = some r := by
  unfold am_res at h
  by_cases hx : ∃ r, ∃ n, am_run ak X XL code ml n y pc ls st σ = some r
  · rw [dif_pos hx] at h
    cases h
    exact hx.choose_spec
  · rw [dif_neg hx] at h
    cases h
/-- a method's answer -/
noncomputable def am_fun (y : Nat) (as : List am_V) (σ : am_H) : am_R := am_res ak X XL code ml y 0 (am_ent (ml y) as) [] σ
theorem am_res_eq (y pc : Nat) (ls st : List am_V) (σ : am_H) : am_res ak X XL code ml y pc ls st σ = am_step ak X XL (am_res ak X XL code ml y) (am_fun ak X XL code ml) pc ls st σ (am_look (code y) pc) := by
  have fwd : ∀ r, am_res ak X XL code ml y pc ls st σ = some r → am_step ak X XL (am_res ak X XL code ml y) (am_fun ak X XL code ml) pc ls st σ (am_look (code y) pc) = some r := by
    intro r h
    obtain ⟨n, hn⟩ := am_res_run ak X XL code ml h
    cases n with
    | zero => simp [am_run] at hn
    | succ n =>
      rcases am_dst ak X XL pc ls st σ (am_look (code y) pc) _ _ r hn with ⟨-, h1⟩ | ⟨p, l, s, h9, -, h1, h2⟩ | ⟨y2, as, q, -, h1, h2⟩ | ⟨y2, as, q, p, l, s, h1, h2, h3⟩
      · exact h1 _ _
      · exact h2 _ _ (am_res_of ak X XL code ml h1)
      · exact h2 _ _ (am_res_of ak X XL code ml h1)
      · exact h3 _ _ (am_res_of ak X XL code ml h1) (am_res_of ak X XL code ml h2)
  have bwd : ∀ r, am_step ak X XL (am_res ak X XL code ml y) (am_fun ak X XL code ml) pc ls st σ (am_look (code y) pc) = some r → am_res ak X XL code ml y pc ls st σ = some r := by
    intro r h
    rcases am_dst ak X XL pc ls st σ (am_look (code y) pc) _ _ r h with ⟨-, h1⟩ | ⟨p, l, s, h9, -, h1, h2⟩ | ⟨y2, as, q, -, h1, h2⟩ | ⟨y2, as, q, p, l, s, h1, h2, h3⟩
    · exact am_res_of ak X XL code ml (n := 1) (h1 _ _)
    · obtain ⟨n, hn⟩ := am_res_run ak X XL code ml h1
      exact am_res_of ak X XL code ml (n := n + 1) (h2 _ _ hn)
    · obtain ⟨n, hn⟩ := am_res_run ak X XL code ml h1
      exact am_res_of ak X XL code ml (n := n + 1) (h2 _ _ hn)
    · obtain ⟨n, hn⟩ := am_res_run ak X XL code ml h1
      obtain ⟨m, hm⟩ := am_res_run ak X XL code ml h2
      exact am_res_of ak X XL code ml (n := max n m + 1) (h3 _ _ (am_mono ak X XL code ml (Nat.le_max_left n m) hn) (am_mono ak X XL code ml (Nat.le_max_right n m) hm))
  cases ha : am_res ak X XL code ml y pc ls st σ with
  | some r => exact (fwd r ha).symm
  | none =>
    cases hb : am_step ak X XL (am_res ak X XL code ml y) (am_fun ak X XL code ml) pc ls st σ (am_look (code y) pc) with
    | none => rfl
    | some r => rw [bwd r hb] at ha; cases ha
end AmFix
