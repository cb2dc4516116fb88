/-! what a step asks of what comes behind it -/
def am_D1 {α : Type} (F : (α → am_R) → am_R) : Prop := ∀ K r, F K = some r → ∃ x, K x = some r ∧ ∀ K', K' x = some r → F K' = some r
def am_D2 {α β : Type} (F : (α → β → am_R) → am_R) : Prop := ∀ K r, F K = some r → ∃ x y, K x y = some r ∧ ∀ K', K' x y = some r → F K' = some r
def am_DH {α : Type} (σ : am_H) (F : (α → am_H → am_R) → am_R) : Prop := ∀ K r, F K = some r → ∃ x y, y.1 = σ.1 ∧ K x y = some r ∧ ∀ K', K' x y = some r → F K' = some r
section AmEv
variable {ak : Nat → Nat} {X : Nat → Nat → Int32} {XL : Nat → Nat}
theorem am_d_bin (f : Int32 → Int32 → Int32) (st : List am_V) : am_D1 (fun K => am_bin f K st) := by
  intro K r h
  unfold am_bin at h ⊢
  split at h
  · exact ⟨_, h, fun K' h' => h'⟩
  · exact absurd h (by simp)
theorem am_d_iald (σ : am_H) (st : List am_V) : am_D1 (fun K => am_iald ak X XL σ K st) := by
  intro K r h
  unfold am_iald at h ⊢
  split at h
  · rename_i j t i r9
    cases h1 : Nat.blt t 200 <;> simp only [h1, cond_true, cond_false] at h ⊢
    · cases h2 : (Nat.blt t 220 && am_in j (XL t - 1)) <;> simp only [h2, cond_true, cond_false] at h ⊢
      · exact absurd h (by simp)
      · exact ⟨_, h, fun K' h' => h'⟩
    · cases h2 : (Nat.beq (ak t) 0 && am_in j (ah_ln σ t i)) <;> simp only [h2, cond_true, cond_false] at h ⊢
      · exact absurd h (by simp)
      · exact ⟨_, h, fun K' h' => h'⟩
  · exact absurd h (by simp)
theorem am_d_bald (σ : am_H) (st : List am_V) : am_D1 (fun K => am_bald ak σ K st) := by
  intro K r h
  unfold am_bald at h ⊢
  split at h
  · rename_i j t i r9
    cases h2 : (Nat.blt t 200 && (Nat.beq (ak t) 1 || Nat.beq (ak t) 2) && am_in j (ah_ln σ t i)) <;> simp only [h2, cond_true, cond_false] at h ⊢
    · exact absurd h (by simp)
    · exact ⟨_, h, fun K' h' => h'⟩
  · exact absurd h (by simp)
theorem am_d_aald (σ : am_H) (st : List am_V) : am_D1 (fun K => am_aald ak σ K st) := by
  intro K r h
  unfold am_aald at h ⊢
  split at h
  · rename_i j t i r9
    cases h2 : (Nat.blt t 200 && (Nat.beq (ak t) 3 || Nat.beq (ak t) 4) && am_in j (ah_ln σ t i)) <;> simp only [h2, cond_true, cond_false] at h ⊢
    · exact absurd h (by simp)
    · exact ⟨_, h, fun K' h' => h'⟩
  · exact absurd h (by simp)
theorem am_d_iast (σ : am_H) (st : List am_V) : am_DH σ (fun K => am_iast ak σ K st) := by
  intro K r h
  unfold am_iast at h ⊢
  split at h
  · rename_i x j t i r9
    cases h2 : (Nat.blt t 200 && Nat.beq (ak t) 0 && am_in j (ah_ln σ t i)) <;> simp only [h2, cond_true, cond_false] at h ⊢
    · exact absurd h (by simp)
    · exact ⟨_, _, (by rfl), h, fun K' h' => h'⟩
  · exact absurd h (by simp)
theorem am_d_bast (σ : am_H) (st : List am_V) : am_DH σ (fun K => am_bast ak σ K st) := by
  intro K r h
  unfold am_bast at h ⊢
  split at h
  · rename_i x j t i r9
    cases h2 : (Nat.blt t 200 && (Nat.beq (ak t) 1 || Nat.beq (ak t) 2) && am_in j (ah_ln σ t i)) <;> simp only [h2, cond_true, cond_false] at h ⊢
    · exact absurd h (by simp)
    · exact ⟨_, _, (by rfl), h, fun K' h' => h'⟩
  · exact absurd h (by simp)
theorem am_d_aast (σ : am_H) (st : List am_V) : am_DH σ (fun K => am_aast ak σ K st) := by
  intro K r h
  unfold am_aast at h ⊢
  split at h
  · rename_i t2 i2 j t i r9
    cases h2 : (Nat.blt t 200 && ((Nat.beq (ak t) 3 && Nat.beq t2 3) || (Nat.beq (ak t) 4 && Nat.beq t2 1)) && am_in j (ah_ln σ t i)) <;> simp only [h2, cond_true, cond_false] at h ⊢
    · exact absurd h (by simp)
    · exact ⟨_, _, (by rfl), h, fun K' h' => h'⟩
  · exact absurd h (by simp)
theorem am_d_alen (σ : am_H) (st : List am_V) : am_D1 (fun K => am_alen ak XL σ K st) := by
  intro K r h
  unfold am_alen at h ⊢
  split at h
  · rename_i t i r9
    cases h2 : ((Nat.blt t 200 && !Nat.beq (ak t) 9) || (Nat.blt 199 t && Nat.blt t 220 && Nat.blt 0 (XL t))) <;> simp only [h2, cond_true, cond_false] at h ⊢
    · exact absurd h (by simp)
    · exact ⟨_, h, fun K' h' => h'⟩
  · exact absurd h (by simp)
theorem am_d_getf (a b c : Nat) (σ : am_H) (st : List am_V) : am_D1 (fun K => am_getf a b c σ K st) := by
  intro K r h
  unfold am_getf at h ⊢
  split at h
  · rename_i t i r9
    cases h2 : Nat.beq t a <;> simp only [h2, cond_true, cond_false] at h ⊢
    · exact absurd h (by simp)
    · exact ⟨_, h, fun K' h' => h'⟩
  · exact absurd h (by simp)
theorem am_d_putf (a b c : Nat) (σ : am_H) (st : List am_V) : am_DH σ (fun K => am_putf a b c σ K st) := by
  intro K r h
  unfold am_putf at h ⊢
  split at h
  · rename_i x t i r9
    cases h2 : (Nat.beq t a && (Nat.beq c 0 || (Nat.beq c 2 && (x == 0 || x == 1)))) <;> simp only [h2, cond_true, cond_false] at h ⊢
    · exact absurd h (by simp)
    · exact ⟨_, _, (by rfl), h, fun K' h' => h'⟩
  · rename_i q t i r9
    cases h2 : (Nat.beq t a && Nat.beq c 1) <;> simp only [h2, cond_true, cond_false] at h ⊢
    · exact absurd h (by simp)
    · exact ⟨_, _, (by rfl), h, fun K' h' => h'⟩
  · exact absurd h (by simp)
theorem am_d_ldi (ls : List am_V) (k : Nat) : am_D1 (fun K => am_ldi ls k K) := by
  intro K r h
  unfold am_ldi at h ⊢
  split at h
  · rename_i x hx
    exact ⟨_, h, fun K' h' => by simp only [hx]; exact h'⟩
  · exact absurd h (by simp)
theorem am_d_lda (ls : List am_V) (k : Nat) : am_D1 (fun K => am_lda ls k K) := by
  intro K r h
  unfold am_lda at h ⊢
  split at h
  · rename_i x hx
    exact ⟨_, h, fun K' h' => by simp only [hx]; exact h'⟩
  · exact absurd h (by simp)
theorem am_d_inc (ls : List am_V) (k : Nat) (w : Int32) : am_D1 (fun K => am_inc ls k w K) := by
  intro K r h
  unfold am_inc at h ⊢
  split at h
  · rename_i x hx
    exact ⟨_, h, fun K' h' => by simp only [hx]; exact h'⟩
  · exact absurd h (by simp)
theorem am_d_sti (ls : List am_V) (k : Nat) (st : List am_V) : am_D2 (fun K => am_sti ls k K st) := by
  intro K r h
  unfold am_sti at h ⊢
  split at h
  · cases h2 : Nat.blt k ls.length <;> simp only [h2, cond_true, cond_false] at h ⊢
    · exact absurd h (by simp)
    · exact ⟨_, _, h, fun K' h' => h'⟩
  · exact absurd h (by simp)
theorem am_d_sta (ls : List am_V) (k : Nat) (st : List am_V) : am_D2 (fun K => am_sta ls k K st) := by
  intro K r h
  unfold am_sta at h ⊢
  split at h
  · cases h2 : Nat.blt k ls.length <;> simp only [h2, cond_true, cond_false] at h ⊢
    · exact absurd h (by simp)
    · exact ⟨_, _, h, fun K' h' => h'⟩
  · exact absurd h (by simp)
theorem am_d_inP (st : List am_V) : am_D1 (fun K => am_inP K st) := by
  intro K r h
  unfold am_inP at h ⊢
  split at h
  · rename_i hi lo x r9
    cases h2 : Nat.ble r9.length 4 <;> simp only [h2, cond_true, cond_false] at h ⊢
    · exact absurd h (by simp)
    · exact ⟨_, h, fun K' h' => h'⟩
  · exact absurd h (by simp)
theorem am_d_b4 (f : Int32 → Int32 → Int32) (st : List am_V) : am_D1 (fun K => am_b4 f K st) := by
  intro K r h
  unfold am_b4 at h ⊢
  split at h
  · rename_i y x r9
    cases h2 : Nat.ble r9.length 4 <;> simp only [h2, cond_true, cond_false] at h ⊢
    · exact absurd h (by simp)
    · exact ⟨_, h, fun K' h' => h'⟩
  · exact absurd h (by simp)
theorem am_d_sw (x : Int32) (d : Nat) : ∀ tb : List (Int32 × Nat), am_D1 (fun K => am_sw x K d tb)
  | [] => fun K r h => ⟨_, h, fun K' h' => h'⟩
  | q :: tb => by
    intro K r h
    unfold am_sw at h ⊢
    by_cases hq : x = q.1
    · simp only [hq, if_true] at h ⊢
      exact ⟨_, h, fun K' h' => h'⟩
    · simp only [hq, if_false] at h ⊢
      exact am_d_sw x d tb K r h
/-- which of two roads, then what is asked there -/
def am_DB (p : Int32 → Int32 → am_R → am_R → am_R) : Prop := ∀ x y A B r, p x y A B = some r → (A = some r ∧ ∀ A' B', A' = some r → p x y A' B' = some r) ∨ (B = some r ∧ ∀ A' B', B' = some r → p x y A' B' = some r)
theorem am_d_ite {c : Prop} [Decidable c] {A B : am_R} {r : am_O × am_H} (h : (if c then A else B) = some r) : (A = some r ∧ ∀ A' B' : am_R, A' = some r → (if c then A' else B') = some r) ∨ (B = some r ∧ ∀ A' B' : am_R, B' = some r → (if c then A' else B') = some r) := by
  by_cases hc : c
  · simp only [hc, if_true] at h ⊢
    exact Or.inl ⟨h, fun _ _ h => h⟩
  · simp only [hc, if_false] at h ⊢
    exact Or.inr ⟨h, fun _ _ h => h⟩
theorem am_d_ite' {c : Prop} [Decidable c] {A B : am_R} {r : am_O × am_H} (h : (if c then B else A) = some r) : (A = some r ∧ ∀ A' B' : am_R, A' = some r → (if c then B' else A') = some r) ∨ (B = some r ∧ ∀ A' B' : am_R, B' = some r → (if c then B' else A') = some r) := by
  by_cases hc : c
  · simp only [hc, if_true] at h ⊢
    exact Or.inr ⟨h, fun _ _ h => h⟩
  · simp only [hc, if_false] at h ⊢
    exact Or.inl ⟨h, fun _ _ h => h⟩
end AmEv
