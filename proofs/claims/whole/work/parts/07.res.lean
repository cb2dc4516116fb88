abbrev am_KT : Type := Nat → List am_V → List am_V → am_H → am_R
abbrev am_CT : Type := Nat → List am_V → am_H → am_R
/-- a heap that comes next: the same cells, or one more -/
def am_le1 (σ h : am_H) : Prop := h.1 = σ.1 ∨ ∃ t n, h.1 = (am_mk σ t n).1
def am_Dst (σ : am_H) (F : am_KT → am_CT → am_R) : Prop := ∀ K C r, F K C = some r →
  (r.2 = σ ∧ ∀ K' C', F K' C' = some r)
  ∨ (∃ p l s h, am_le1 σ h ∧ K p l s h = some r ∧ ∀ (K' : am_KT) C', K' p l s h = some r → F K' C' = some r)
  ∨ (∃ y as q, r.2 = q.2 ∧ C y as σ = some q ∧ ∀ K' (C' : am_CT), C' y as σ = some q → F K' C' = some r)
  ∨ (∃ y as q p l s, C y as σ = some q ∧ K p l s q.2 = some r ∧ ∀ (K' : am_KT) (C' : am_CT), C' y as σ = some q → K' p l s q.2 = some r → F K' C' = some r)
theorem am_dst1 {σ : am_H} {α : Type} {F : (α → am_R) → am_R} (hF : am_D1 F) (p : α → Nat) (l s : α → List am_V) : am_Dst σ (fun K _ => F (fun x => K (p x) (l x) (s x) σ)) := by
  intro K C r hr
  obtain ⟨x, h1, h2⟩ := hF _ r hr
  exact Or.inr (Or.inl ⟨_, _, _, _, Or.inl rfl, h1, fun K' _ h' => h2 _ h'⟩)
theorem am_dst2 {σ : am_H} {α β : Type} {F : (α → β → am_R) → am_R} (hF : am_D2 F) (p : α → β → Nat) (l s : α → β → List am_V) : am_Dst σ (fun K _ => F (fun x y => K (p x y) (l x y) (s x y) σ)) := by
  intro K C r hr
  obtain ⟨x, y, h1, h2⟩ := hF _ r hr
  exact Or.inr (Or.inl ⟨_, _, _, _, Or.inl rfl, h1, fun K' _ h' => h2 _ h'⟩)
theorem am_dstH {σ : am_H} {α : Type} {F : (α → am_H → am_R) → am_R} (hF : am_DH σ F) (p : Nat) (l : List am_V) (s : α → List am_V) : am_Dst σ (fun K _ => F (fun x y => K p l (s x) y)) := by
  intro K C r hr
  obtain ⟨x, y, h0, h1, h2⟩ := hF _ r hr
  exact Or.inr (Or.inl ⟨_, _, _, _, Or.inl h0, h1, fun K' _ h' => h2 _ h'⟩)
theorem am_dst0 {σ : am_H} (p : Nat) (l s : List am_V) : am_Dst σ (fun K _ => K p l s σ) := fun _ _ _ hr => Or.inr (Or.inl ⟨_, _, _, _, (by exact Or.inl rfl), hr, fun _ _ h' => h'⟩)
theorem am_dst_none {σ : am_H} : am_Dst σ (fun _ _ => none) := fun _ _ _ hr => by simp at hr
theorem am_dst_cmp2 {p : Int32 → Int32 → am_R → am_R → am_R} (hp : ∀ x y A B r, p x y A B = some r → (A = some r ∧ ∀ A' B', A' = some r → p x y A' B' = some r) ∨ (B = some r ∧ ∀ A' B', B' = some r → p x y A' B' = some r))
    (a b : Nat) (ls st : List am_V) (σ : am_H) : am_Dst σ (fun K _ => am_cmp2 p (fun r => K a ls r σ) (fun r => K b ls r σ) st) := by
  intro K C r h
  unfold am_cmp2 at h ⊢
  split at h
  · rcases hp _ _ _ _ _ h with ⟨h1, h2⟩ | ⟨h1, h2⟩
    · exact Or.inr (Or.inl ⟨_, _, _, _, Or.inl rfl, h1, fun K' _ h' => h2 _ _ h'⟩)
    · exact Or.inr (Or.inl ⟨_, _, _, _, Or.inl rfl, h1, fun K' _ h' => h2 _ _ h'⟩)
  · exact absurd h (by simp)
theorem am_dst_cmp1 {p : Int32 → am_R → am_R → am_R} (hp : ∀ x A B r, p x A B = some r → (A = some r ∧ ∀ A' B', A' = some r → p x A' B' = some r) ∨ (B = some r ∧ ∀ A' B', B' = some r → p x A' B' = some r))
    (a b : Nat) (ls st : List am_V) (σ : am_H) : am_Dst σ (fun K _ => am_cmp1 p (fun r => K a ls r σ) (fun r => K b ls r σ) st) := by
  intro K C r h
  unfold am_cmp1 at h ⊢
  split at h
  · rcases hp _ _ _ _ h with ⟨h1, h2⟩ | ⟨h1, h2⟩
    · exact Or.inr (Or.inl ⟨_, _, _, _, Or.inl rfl, h1, fun K' _ h' => h2 _ _ h'⟩)
    · exact Or.inr (Or.inl ⟨_, _, _, _, Or.inl rfl, h1, fun K' _ h' => h2 _ _ h'⟩)
  · exact absurd h (by simp)
theorem am_dst_call (a b c pc' : Nat) (ls st : List am_V) (σ : am_H) (tb : List (Int32 × Nat)) : am_Dst σ (fun K C => am_call a b c C st σ (fun q r => am_aft tb (fun v σ => K pc' ls (v ++ r) σ) (fun h x σ => K h ls [av_r x.1 x.2] σ) q)) := by
  intro K C r h
  unfold am_call at h ⊢
  cases h2 : (Nat.ble b st.length && Nat.ble (st.length - b) 4 && (Nat.beq c 999 || am_recv c (st.take b).reverse) && (st.take b).all am_nl) <;> simp only [h2, cond_true, cond_false] at h ⊢
  · exact absurd h (by simp)
  · cases hq : C a (List.take b st).reverse σ with
    | none => rw [hq] at h; simp [am_aft] at h
    | some q =>
      obtain ⟨o, σ2⟩ := q
      rw [hq] at h
      cases o with
      | inl v => exact Or.inr (Or.inr (Or.inr ⟨_, _, _, _, _, _, hq, h, fun K' C' h1 h2 => by rw [h1]; exact h2⟩))
      | inr x =>
        cases tb with
        | nil => exact Or.inr (Or.inr (Or.inl ⟨_, _, _, by have h9 : some (Sum.inr x, σ2) = some r := h; cases h9; rfl, hq, fun K' C' h1 => by rw [h1]; exact h⟩))
        | cons z t => exact Or.inr (Or.inr (Or.inr ⟨_, _, _, _, _, _, hq, h, fun K' C' h1 h2 => by rw [h1]; exact h2⟩))
set_option maxHeartbeats 2000000 in
theorem am_dst (ak : Nat → Nat) (X : Nat → Nat → Int32) (XL : Nat → Nat) (pc : Nat) (ls st : List am_V) (σ : am_H) (row : Option am_Row) : am_Dst σ (fun K C => am_step ak X XL K C pc ls st σ row) := by
  rcases row with _ | ⟨i, len, w, a, b, c, tb⟩
  · exact am_dst_none
  · cases i with
    | iconst n => exact am_dst0 _ _ _
    | bipush n => exact am_dst0 _ _ _
    | sipush n => exact am_dst0 _ _ _
    | ldc n => exact am_dst0 _ _ _
    | ldc_w n => exact am_dst0 _ _ _
    | lconst n => exact am_dst0 _ _ _
    | ldc2_w n => exact am_dst0 _ _ _
    | aconst_null => exact am_dst0 _ _ _
    | iload_n n => exact am_dst1 (am_d_ldi ls a) (fun _ => pc + len) (fun _ => ls) (fun v => v :: st)
    | iload n => exact am_dst1 (am_d_ldi ls a) (fun _ => pc + len) (fun _ => ls) (fun v => v :: st)
    | aload_n n => exact am_dst1 (am_d_lda ls a) (fun _ => pc + len) (fun _ => ls) (fun v => v :: st)
    | aload n => exact am_dst1 (am_d_lda ls a) (fun _ => pc + len) (fun _ => ls) (fun v => v :: st)
    | istore_n n => exact am_dst2 (am_d_sti ls a st) (fun _ _ => pc + len) (fun l _ => l) (fun _ r => r)
    | istore n => exact am_dst2 (am_d_sti ls a st) (fun _ _ => pc + len) (fun l _ => l) (fun _ r => r)
    | astore_n n => exact am_dst2 (am_d_sta ls a st) (fun _ _ => pc + len) (fun l _ => l) (fun _ r => r)
    | astore n => exact am_dst2 (am_d_sta ls a st) (fun _ _ => pc + len) (fun l _ => l) (fun _ r => r)
    | iinc k n => exact am_dst1 (am_d_inc ls a w) (fun _ => pc + len) (fun l => l) (fun _ => st)
    | iadd => exact am_dst1 (am_d_bin _ st) (fun _ => pc + len) (fun _ => ls) (fun r => r)
    | isub => exact am_dst1 (am_d_bin _ st) (fun _ => pc + len) (fun _ => ls) (fun r => r)
    | imul => exact am_dst1 (am_d_bin _ st) (fun _ => pc + len) (fun _ => ls) (fun r => r)
    | iand => exact am_dst1 (am_d_bin _ st) (fun _ => pc + len) (fun _ => ls) (fun r => r)
    | ior => exact am_dst1 (am_d_bin _ st) (fun _ => pc + len) (fun _ => ls) (fun r => r)
    | ixor => exact am_dst1 (am_d_bin _ st) (fun _ => pc + len) (fun _ => ls) (fun r => r)
    | ishl => exact am_dst1 (am_d_bin _ st) (fun _ => pc + len) (fun _ => ls) (fun r => r)
    | ishr => exact am_dst1 (am_d_bin _ st) (fun _ => pc + len) (fun _ => ls) (fun r => r)
    | iushr => exact am_dst1 (am_d_bin _ st) (fun _ => pc + len) (fun _ => ls) (fun r => r)
    | idiv =>
      intro K C r h
      simp only [am_step] at h ⊢
      split at h
      · split at h
        · exact absurd h (by simp)
        · rename_i hne
          exact Or.inr (Or.inl ⟨_, _, _, _, (by exact Or.inl rfl), h, fun _ _ h' => by rw [if_neg hne]; exact h'⟩)
      · exact absurd h (by simp)
    | irem =>
      intro K C r h
      simp only [am_step] at h ⊢
      split at h
      · split at h
        · exact absurd h (by simp)
        · rename_i hne
          exact Or.inr (Or.inl ⟨_, _, _, _, (by exact Or.inl rfl), h, fun _ _ h' => by rw [if_neg hne]; exact h'⟩)
      · exact absurd h (by simp)
    | ineg =>
      intro K C r h
      simp only [am_step] at h ⊢
      split at h
      · exact Or.inr (Or.inl ⟨_, _, _, _, (by exact Or.inl rfl), h, fun _ _ h' => h'⟩)
      · exact absurd h (by simp)
    | i2l =>
      intro K C r h
      simp only [am_step] at h ⊢
      split at h
      · exact Or.inr (Or.inl ⟨_, _, _, _, (by exact Or.inl rfl), h, fun _ _ h' => h'⟩)
      · exact absurd h (by simp)
    | i2b =>
      intro K C r h
      simp only [am_step] at h ⊢
      split at h
      · exact Or.inr (Or.inl ⟨_, _, _, _, (by exact Or.inl rfl), h, fun _ _ h' => h'⟩)
      · exact absurd h (by simp)
    | dup =>
      intro K C r h
      simp only [am_step] at h ⊢
      split at h
      · exact Or.inr (Or.inl ⟨_, _, _, _, (by exact Or.inl rfl), h, fun _ _ h' => h'⟩)
      · exact Or.inr (Or.inl ⟨_, _, _, _, (by exact Or.inl rfl), h, fun _ _ h' => h'⟩)
      · exact absurd h (by simp)
    | dup2 =>
      intro K C r h
      simp only [am_step] at h ⊢
      split at h
      · exact Or.inr (Or.inl ⟨_, _, _, _, (by exact Or.inl rfl), h, fun _ _ h' => h'⟩)
      · exact absurd h (by simp)
    | dup_x1 =>
      intro K C r h
      simp only [am_step] at h ⊢
      split at h
      · exact Or.inr (Or.inl ⟨_, _, _, _, (by exact Or.inl rfl), h, fun _ _ h' => h'⟩)
      · exact absurd h (by simp)
    | goto n => exact am_dst0 _ _ _
    | if_icmp cnd off => cases cnd with
      | eq => exact am_dst_cmp2 (p := fun x y A B => if x = y then A else B) (fun _ _ _ _ _ h => am_d_ite h) _ _ _ _ _
      | ne => exact am_dst_cmp2 (p := fun x y A B => if x = y then B else A) (fun _ _ _ _ _ h => am_d_ite' h) _ _ _ _ _
      | lt => exact am_dst_cmp2 (p := fun x y A B => if x < y then A else B) (fun _ _ _ _ _ h => am_d_ite h) _ _ _ _ _
      | ge => exact am_dst_cmp2 (p := fun x y A B => if y ≤ x then A else B) (fun _ _ _ _ _ h => am_d_ite h) _ _ _ _ _
      | gt => exact am_dst_cmp2 (p := fun x y A B => if y < x then A else B) (fun _ _ _ _ _ h => am_d_ite h) _ _ _ _ _
      | le => exact am_dst_cmp2 (p := fun x y A B => if x ≤ y then A else B) (fun _ _ _ _ _ h => am_d_ite h) _ _ _ _ _
    | ifCond cnd off => cases cnd with
      | eq => exact am_dst_cmp1 (p := fun x A B => if x = 0 then A else B) (fun _ _ _ _ h => am_d_ite h) _ _ _ _ _
      | ne => exact am_dst_cmp1 (p := fun x A B => if x = 0 then B else A) (fun _ _ _ _ h => am_d_ite' h) _ _ _ _ _
      | lt => exact am_dst_cmp1 (p := fun x A B => if x < 0 then A else B) (fun _ _ _ _ h => am_d_ite h) _ _ _ _ _
      | ge => exact am_dst_cmp1 (p := fun x A B => if 0 ≤ x then A else B) (fun _ _ _ _ h => am_d_ite h) _ _ _ _ _
      | gt => exact am_dst_cmp1 (p := fun x A B => if 0 < x then A else B) (fun _ _ _ _ h => am_d_ite h) _ _ _ _ _
      | le => exact am_dst_cmp1 (p := fun x A B => if x ≤ 0 then A else B) (fun _ _ _ _ h => am_d_ite h) _ _ _ _ _
    | tableswitch d lo hi offs =>
      intro K C r h
      simp only [am_step] at h ⊢
      split at h
      · exact am_dst1 (am_d_sw _ a tb) (fun q => q) (fun _ => ls) (fun _ => _) K C r h
      · exact absurd h (by simp)
    | lookupswitch d ps =>
      intro K C r h
      simp only [am_step] at h ⊢
      split at h
      · exact am_dst1 (am_d_sw _ a tb) (fun q => q) (fun _ => ls) (fun _ => _) K C r h
      · exact absurd h (by simp)
    | iaload => exact am_dst1 (am_d_iald σ st) (fun _ => pc + len) (fun _ => ls) (fun r => r)
    | baload => exact am_dst1 (am_d_bald σ st) (fun _ => pc + len) (fun _ => ls) (fun r => r)
    | aaload => exact am_dst1 (am_d_aald σ st) (fun _ => pc + len) (fun _ => ls) (fun r => r)
    | iastore => exact am_dstH (am_d_iast σ st) (pc + len) ls (fun r => r)
    | bastore => exact am_dstH (am_d_bast σ st) (pc + len) ls (fun r => r)
    | aastore => exact am_dstH (am_d_aast σ st) (pc + len) ls (fun r => r)
    | arraylength => exact am_dst1 (am_d_alen σ st) (fun _ => pc + len) (fun _ => ls) (fun r => r)
    | getfield n => exact am_dst1 (am_d_getf a b c σ st) (fun _ => pc + len) (fun _ => ls) (fun r => r)
    | putfield n => exact am_dstH (am_d_putf a b c σ st) (pc + len) ls (fun r => r)
    | getstatic n => exact am_dst0 _ _ _
    | new n => exact fun _ _ _ hr => Or.inr (Or.inl ⟨_, _, _, _, (by exact Or.inr ⟨_, _, rfl⟩), hr, fun _ _ h' => h'⟩)
    | newarray ty =>
      intro K C r h
      simp only [am_step] at h ⊢
      split at h
      · rename_i n r9
        cases h2 : am_in n 20000 <;> simp only [h2, cond_true, cond_false] at h ⊢
        · exact absurd h (by simp)
        · exact Or.inr (Or.inl ⟨_, _, _, _, (by exact Or.inr ⟨_, _, rfl⟩), h, fun _ _ h' => h'⟩)
      · exact absurd h (by simp)
    | anewarray ty =>
      intro K C r h
      simp only [am_step] at h ⊢
      split at h
      · rename_i n r9
        cases h2 : am_in n 20000 <;> simp only [h2, cond_true, cond_false] at h ⊢
        · exact absurd h (by simp)
        · exact Or.inr (Or.inl ⟨_, _, _, _, (by exact Or.inr ⟨_, _, rfl⟩), h, fun _ _ h' => h'⟩)
      · exact absurd h (by simp)
    | invokestatic n =>
      intro K C r h
      simp only [am_step] at h ⊢
      cases h2 : Nat.beq a 901 <;> simp only [h2, cond_true, cond_false] at h ⊢
      · cases h3 : Nat.beq a 902 <;> simp only [h3, cond_true, cond_false] at h ⊢
        · cases h4 : Nat.beq a 903 <;> simp only [h4, cond_true, cond_false] at h ⊢
          · exact am_dst_call a b c (pc + len) ls st σ tb K C r h
          · exact am_dst1 (am_d_b4 _ st) (fun _ => pc + len) (fun _ => ls) (fun r => r) K C r h
        · exact am_dst1 (am_d_b4 _ st) (fun _ => pc + len) (fun _ => ls) (fun r => r) K C r h
      · exact am_dst1 (am_d_inP st) (fun _ => pc + len) (fun _ => ls) (fun r => r) K C r h
    | invokevirtual n => exact am_dst_call a b c (pc + len) ls st σ tb
    | invokespecial n =>
      intro K C r h
      simp only [am_step] at h ⊢
      cases h2 : Nat.beq a 900 <;> simp only [h2, cond_true, cond_false] at h ⊢
      · exact am_dst_call a b c (pc + len) ls st σ tb K C r h
      · split at h
        · rename_i t9 q r9
          cases h3 : (Nat.blt t9 200 && Nat.ble r9.length 4) <;> simp only [h3, cond_true, cond_false] at h ⊢
          · exact absurd h (by simp)
          · exact Or.inr (Or.inl ⟨_, _, _, _, (by exact Or.inl rfl), h, fun _ _ h' => h'⟩)
        · exact absurd h (by simp)
    | athrow =>
      intro K C r h
      simp only [am_step] at h ⊢
      split at h
      · rename_i t i r9
        cases h2 : Nat.beq t 12 <;> simp only [h2, cond_true, cond_false] at h ⊢
        · exact absurd h (by simp)
        · exact Or.inl ⟨by cases h; rfl, fun _ _ => h⟩
      · exact absurd h (by simp)
    | ireturn =>
      intro K C r h
      simp only [am_step] at h ⊢
      split at h
      · exact Or.inl ⟨by cases h; rfl, fun _ _ => h⟩
      · exact absurd h (by simp)
    | areturn =>
      intro K C r h
      simp only [am_step] at h ⊢
      split at h
      · exact Or.inl ⟨by cases h; rfl, fun _ _ => h⟩
      · exact absurd h (by simp)
    | return_ =>
      intro K C r h
      simp only [am_step] at h ⊢
      split at h
      · exact Or.inl ⟨by cases h; rfl, fun _ _ => h⟩
      · exact absurd h (by simp)
    | _ => exact am_dst_none
