/-! the lengths of a code told at length: both alike -/
section Lens2
variable {sc : bm_Sc} {β : Int → Int} {lim : Int}
theorem s_len_err {K : bm_S → Prop} {H : Nat × Int → bm_S → Prop} {ι : bm_S} {x1 x2 x3 x4 : Int} {v5 v6 v7 : bm_V} (hr : ι 0 0 3 ≠ 0) (h : K ι) : bW sc 33 23 [br 4 0, bi x1, bi x2, bi x3, bi x4, v5, v6, v7] [] ι (bk0 K H) := by
  have key : ∀ v1 v2 v3 v4 v5 v6 v7, bW sc 33 206 [br 4 0, v1, v2, v3, v4, v5, v6, v7] [] ι (bk0 K H) := fun _ _ _ _ _ _ _ => e_CR_readLengths_206 (bif_i (fun _ => e_CR_readLengths_224 h) (fun _ => s_broken (fun e => absurd e hr) (fun _ => e_CR_readLengths_224 h)))
  exact e_CR_readLengths_23 (bif_i (fun _ => key _ _ _ _ _ _ _) (fun _ => bif_i (fun _ => key _ _ _ _ _ _ _) (fun _ => bif_i (fun _ => key _ _ _ _ _ _ _) (fun _ => s_fine (fun e => absurd e hr) (fun _ => bif_t rfl (key _ _ _ _ _ _ _))))))
/-- what both say of a run from here -/
def LenS (sc : bm_Sc) (β : Int → Int) (lim : Int) (a : Nat) (lm : Int) (LM : Int → Int) (p k F S lt bc rn bm tm : Int) (L : Int → Int) : Prop :=
  ∃ (p' r : Int) (L' : Int → Int), p ≤ p' ∧ p' ≤ lim ∧ (r = 0 ∨ r = 14 ∨ r = 1 ∧ p' = lim) ∧ (r = 0 → (∀ s : Nat, s < a → 0 ≤ L' s ∧ L' s ≤ 15) ∧ ks L' a = 65536) ∧
    (∀ (ι : bm_S) (v5 v6 v7 : bm_V) (K : bm_S → Prop) (H : Nat × Int → bm_S → Prop), cR ι β lim p 0 → CodeC ι 73 lm LM 18 → ι 4 0 5 = F → ι 4 0 6 = S → ι 4 0 7 = lt → (∀ s : Nat, s < a → ι 23 0 s = L s) → (∀ ι' : bm_S, cR ι' β lim p' r → (r = 0 → ∀ s : Nat, s < a → ι' 23 0 s = L' s) → Fr fL ι ι' → K ι') → bW sc 33 23 [br 4 0, bi (a : Int), bi bc, bi rn, bi k, v5, v6, v7] [] ι (bk0 K H)) ∧
    (∀ (ι : bm_S) (st : Int) (v8 v9 v10 v11 : bm_V) (K : bm_S → Prop) (H : Nat × Int → bm_S → Prop), 0 ≤ st → st + a ≤ 17910 → mR ι β lim p → CodeM ι 17910 lm LM 18 → (∀ s : Nat, s < a → ι 71 0 (st + s) = L s) → (r = 0 → ∀ ι' : bm_S, mR ι' β lim p' → (∀ s : Nat, s < a → ι' 71 0 (st + s) = L' s) → Fr (gL st a) ι ι' → K ι') → (r ≠ 0 → ∀ ι' : bm_S, mR ι' β lim p' → ι' 12 0 6 = r → Fr (gL st a) ι ι' → H (12, 0) ι') → bW sc 184 15 [br 13 0, bi st, bi (a : Int), bi F, bi S, bi lt, bi bm, bi tm, v8, v9, v10, v11] [] ι (bk0 K H))
/-- what is known at the head of the loop -/
def LenH (a : Nat) (lim p k F S lt bc rn bm tm : Int) (L : Int → Int) : Prop :=
  (0 ≤ F ∧ F ≤ a) ∧ (0 ≤ k ∧ k ≤ F) ∧ (0 ≤ p ∧ p ≤ lim) ∧ (0 ≤ S ∧ S ≤ 32768) ∧ ks L a = 2 * S ∧ (∀ s : Nat, s < a → 0 ≤ L s ∧ L s ≤ 15) ∧ (∀ s : Int, F ≤ s → s < a → L s = 0) ∧ (1 ≤ lt ∧ lt ≤ 15) ∧ (bm = 0 ∧ 0 ≤ bc ∧ bc < 16 ∨ (bm = 16 ∨ bm = 17) ∧ bc = bm ∧ rn = tm ∧ 3 ≤ tm ∧ tm ≤ F)
theorem j_len_exit {a : Nat} {lm : Int} {LM : Int → Int} {p k F S lt bc rn bm tm : Int} {L : Int → Int} (hH : LenH a lim p k F S lt bc rn bm tm L) (hx : S = 32768 ∨ F = a) : LenS sc β lim a lm LM p k F S lt bc rn bm tm L := by
  obtain ⟨h1, h2, h3, h4, h5, h6, h7, h8, h9⟩ := hH
  refine ⟨p, (if S = 32768 then 0 else 14), L, by omega, h3.2, by split <;> omega, fun e => ⟨h6, ?_⟩, ?_, ?_⟩
  · by_cases q : S = 32768
    · rw [h5, q]; rfl
    · rw [if_neg q] at e; omega
  · intro ι v5 v6 v7 K H hR hC e5 e6 e7 e23 h
    have key : ∀ v1 v2 v3 v4 v5 v6 v7, bW sc 33 206 [br 4 0, v1, v2, v3, v4, v5, v6, v7] [] ι (bk0 K H) := fun _ _ _ _ _ _ _ => by
      refine e_CR_readLengths_206 (bif_i (fun q => e_CR_readLengths_224 ?_) (fun q => s_broken (fun _ => e_CR_readLengths_224 ?_) (fun e => absurd hR.2.2.1 e)))
      · rw [e6] at q
        exact h ι (by rw [if_pos q]; exact hR) (fun _ => e23) (Fr.refl _ _)
      · rw [e6] at q
        have hF : Fr fL ι (up ι 0 0 3 14) := (Fr.refl _ _).u (by omega)
        exact h _ (by rw [if_neg q]; exact hR.fr hF (fun j => by omega) (by simp (disch := omega) only [up_s, up_k, up_j, up_i]; exact hR.1) (by simp (disch := omega) only [up_s, up_k, up_j, up_i])) (fun e => by rw [if_neg q] at e; omega) hF
    refine e_CR_readLengths_23 (bif_i (fun _ => key _ _ _ _ _ _ _) (fun _ => bif_i (fun _ => key _ _ _ _ _ _ _) (fun q2 => bif_i (fun _ => key _ _ _ _ _ _ _) (fun q3 => ?_))))
    omega
  · intro ι st v8 v9 v10 v11 K H hst hst2 hR hC e71 h hh
    have hF : Fr (gL st a) ι (up ι 12 0 6 14) := (Fr.refl _ _).u (by omega)
    have fin : S ≠ 32768 → H (12, 0) (up ι 12 0 6 14) := fun q => hh (by rw [if_neg q]; omega) _ (hR.fr hF (fun j => by omega) (by simp (disch := omega) only [up_s, up_k, up_j, up_i]; exact hR.1)) (by rw [if_neg q]; simp (disch := omega) only [up_s, up_k, up_j, up_i]) hF
    refine e_M_readLengths_15 (bif_i (fun q => bif_i (fun q2 => ?_) (fun q2 => m_fail (fin q2))) (fun q => bif_t (by omega) (bif_i (fun q2 => ?_) (fun q2 => m_fail (fin q2)))))
    · exact h (by rw [if_pos q2]) ι hR e71 (Fr.refl _ _)
    · exact h (by rw [if_pos q2]) ι hR e71 (Fr.refl _ _)
/-- behind a mark: many signs of the length n come -/
theorem j_len_step {a : Nat} (ha : (a : Int) ≤ 704) {lm : Int} {LM : Int → Int} {p k F S lt bc rn bm tm m n many : Int} {L : Int → Int} (hm : 0 ≤ m ∧ m < 18) (hn : n = if 16 ≤ m then (if m = 16 then lt else 0) else m) (hmany : 1 ≤ many ∧ many ≤ 20000) (hlt : 1 ≤ lt ∧ lt ≤ 15)
    (hp : 0 ≤ p ∧ p ≤ lim) (hF : 0 ≤ F ∧ F < a) (hk : 0 ≤ k ∧ k ≤ F) (hS : 0 ≤ S ∧ S < 32768) (hks : ks L a = 2 * S) (hL : ∀ s : Nat, s < a → 0 ≤ L s ∧ L s ≤ 15) (hL0 : ∀ s : Int, F ≤ s → s < a → L s = 0)
    (hnext : F + many ≤ a → S + tk n many ≤ 32768 → ks (fi L F n many.toNat) a = 2 * (S + tk n many) → (∀ s : Nat, s < a → 0 ≤ fi L F n many.toNat s ∧ fi L F n many.toNat s ≤ 15) → (∀ s : Int, F + many ≤ s → s < a → fi L F n many.toNat s = 0) → LenS sc β lim a lm LM p (k + 1) (F + many) (S + tk n many) lt bc rn bm tm (fi L F n many.toNat)) :
    ∃ (p' r : Int) (L' : Int → Int), p ≤ p' ∧ p' ≤ lim ∧ (r = 0 ∨ r = 14 ∨ r = 1 ∧ p' = lim) ∧ (r = 0 → (∀ s : Nat, s < a → 0 ≤ L' s ∧ L' s ≤ 15) ∧ ks L' a = 65536) ∧
    (∀ (ι : bm_S) (v2 v6 v7 : bm_V) (K : bm_S → Prop) (H H2 : Nat × Int → bm_S → Prop), cR ι β lim p 0 → CodeC ι 73 lm LM 18 → ι 4 0 5 = F → ι 4 0 6 = S → ι 4 0 7 = lt → (∀ s : Nat, s < a → ι 23 0 s = L s) → (∀ ι' : bm_S, cR ι' β lim p' r → (r = 0 → ∀ s : Nat, s < a → ι' 23 0 s = L' s) → Fr fL ι ι' → K ι') → bC sc 34 [br 4 0, bi n, bi many, bi (a : Int)] ι (bk0 (fun ι20 => bW sc 33 197 [br 4 0, bi (a : Int), v2, bi rn, bi k, bi bc, v6, v7] [] ι20 (bk0 K H)) H2)) ∧
    (∀ (ι : bm_S) (st : Int) (v10 v11 : bm_V) (K : bm_S → Prop) (H : Nat × Int → bm_S → Prop), 0 ≤ st → st + a ≤ 17910 → mR ι β lim p → CodeM ι 17910 lm LM 18 → (∀ s : Nat, s < a → ι 71 0 (st + s) = L s) → (r = 0 → ∀ ι' : bm_S, mR ι' β lim p' → (∀ s : Nat, s < a → ι' 71 0 (st + s) = L' s) → Fr (gL st a) ι ι' → K ι') → (r ≠ 0 → ∀ ι' : bm_S, mR ι' β lim p' → ι' 12 0 6 = r → Fr (gL st a) ι ι' → H (12, 0) ι') → bW sc 184 145 [br 13 0, bi st, bi (a : Int), bi F, bi S, bi lt, bi bm, bi tm, bi m, bi many, v10, v11] [] ι (bk0 K H)) := by
  have hn15 : 0 ≤ n ∧ n ≤ 15 := by rw [hn]; split <;> (try split) <;> omega
  by_cases hfit : F + many ≤ a
  · have hkw : ks (fi L F n many.toNat) a = 2 * (S + tk n many) := by
      rw [ks_fi hF.1 hL0 many.toNat (by omega), hks, show ((many.toNat : Nat) : Int) = many by omega]
      unfold tk
      by_cases q : 0 < n
      · have hp := p15 (n := n) (by omega)
        rw [if_pos q, hp.2.2, Int.mul_add, show many * (2 * (32768 / bm_p2 n)) = 2 * (many * (32768 / bm_p2 n)) by rw [← Int.mul_assoc, Int.mul_comm many 2, Int.mul_assoc]]
      · rw [if_neg q, show n = 0 by omega, Kw_0]; omega
    have hfi : ∀ s : Nat, s < a → 0 ≤ fi L F n many.toNat s ∧ fi L F n many.toNat s ≤ 15 := fun s hs => by
      by_cases q : F ≤ s ∧ (s : Int) < F + many.toNat
      · rw [fi_in _ _ q]; exact hn15
      · rw [fi_out _ _ q]; exact hL s hs
    -- comp's call
    have goC : ∀ (ι : bm_S) (K : bm_S → Prop) (H2 : Nat × Int → bm_S → Prop), cR ι β lim p 0 → ι 4 0 5 = F → ι 4 0 6 = S → (∀ s : Nat, s < a → ι 23 0 s = L s) → (∀ ι' : bm_S, ι' 4 0 5 = F + many → ι' 4 0 6 = S + tk n many → ι' 0 0 3 = (if S + tk n many ≤ 32768 then 0 else 14) → (∀ s : Nat, s < a → ι' 23 0 s = fi L F n many.toNat s) → Fr (fun t i j => t = 0 ∧ j = 3 ∨ t = 23 ∨ t = 4 ∧ (j = 5 ∨ j = 6)) ι ι' → K ι') → bC sc 34 [br 4 0, bi n, bi many, bi (a : Int)] ι (bk0 K H2) := by
      intro ι K H2 hR e5 e6 e23 h
      refine e_CR_come_0 ⟨by omega, bif_f (by omega) (bif_t ha (s_fine (fun _ => bif_f (by omega) ?_) (fun e => absurd hR.2.2.1 e)))⟩
      exact s_come42 (L := L) hn15 ⟨by omega, hfit⟩ hF.1 ha ⟨hS.1, by omega⟩ many.toNat 0 ι (by omega) (by omega) e6 hR.2.2.1 e23 h
    have goM : ∀ (ι : bm_S) (st : Int) (v10 v11 : bm_V) (Q : bm_O → bm_S → Prop), (∀ v8 : bm_V, bW sc 184 189 [br 13 0, bi st, bi (a : Int), bi F, bi S, bi lt, bi bm, bi tm, v8, bi many, bi n, bi 0] [] ι Q) → bW sc 184 145 [br 13 0, bi st, bi (a : Int), bi F, bi S, bi lt, bi bm, bi tm, bi m, bi many, v10, v11] [] ι Q := by
      intro ι st v10 v11 Q h
      refine e_M_readLengths_145 ⟨by omega, bif_t (by omega) (bif_i (fun q => bif_i (fun q2 => ?_) (fun q2 => ?_)) (fun q => ?_))⟩
      · have := h (bi m); rw [hn, if_pos q, if_pos q2] at this; exact this
      · have := h (bi m); rw [hn, if_pos q, if_neg q2] at this; exact this
      · have := h (bi m); rw [hn, if_neg q] at this; exact this
    have tk0 : tk n ((0 : Nat) : Int) = 0 := by
      unfold tk
      split
      · show (0 : Int) * _ = 0; exact Int.zero_mul _
      · rfl
    by_cases hsum : S + tk n many ≤ 32768
    · obtain ⟨p', r, L', t1, t2, t3, t4, t5, t6⟩ := hnext hfit hsum hkw hfi (fun s s0 s1 => by rw [fi_out _ _ (by omega)]; exact hL0 s (by omega) s1)
      refine ⟨p', r, L', t1, t2, t3, t4, ?_, ?_⟩
      · intro ι v2 v6 v7 K H H2 hR hC e5 e6 e7 e23 h
        refine goC ι _ H2 hR e5 e6 e23 fun ι1 a1 a2 a3 a4 a5 => ?_
        rw [if_pos hsum] at a3
        have hFr : Fr fL ι ι1 := a5.wide fun t i j q => by omega
        exact e_CR_readLengths_197 ⟨by omega, t5 ι1 _ _ _ K H (hR.fr a5 (fun j => by omega) (by rw [a5 0 0 1 (by omega)]; exact hR.1) a3) (hC.fr a5 (fun j => by omega)) a1 a2 (by rw [a5 4 0 7 (by omega)]; exact e7) a4 fun ι' g1 g2 g3 => h ι' g1 g2 (hFr.trans g3)⟩
      · intro ι st v10 v11 K H hst hst2 hR hC e71 h hh
        refine goM ι st v10 v11 _ fun v8 => ?_
        have key := m_len189 (sc := sc) (K := K) (H := H) (st := st) (n := n) (many := many) (F := F) (S := S) (x5 := lt) (x6 := bm) (x7 := tm) (L := L) (a := a) (v8 := v8) hn15 ⟨by omega, hfit⟩ hF.1 ha ⟨hst, by omega⟩ ⟨hS.1, by omega⟩ many.toNat 0 ι (by omega) e71 (fun _ ι1 a1 a2 w8 w9 w10 w11 => ?_) (fun e => absurd hsum e)
        · rw [tk0, show F + ((0 : Nat) : Int) = F by omega, show S + 0 = S by omega] at key
          exact key
        · have hFr : Fr (gL st a) ι ι1 := a2.wide fun t i j q => by omega
          exact t6 ι1 st w8 w9 w10 w11 K H hst hst2 (hR.fr a2 (fun j => by omega) (by rw [a2 13 0 16 (by omega)]; exact hR.1)) (hC.fr a2 (fun s _ => by omega) (by omega)) a1 (fun e ι' g1 g2 g3 => h e ι' g1 g2 (hFr.trans g3)) (fun e ι' g1 g2 g3 => hh e ι' g1 g2 (hFr.trans g3))
    · -- too much
      refine ⟨p, 14, L, by omega, hp.2, Or.inr (Or.inl rfl), fun e => by omega, ?_, ?_⟩
      · intro ι v2 v6 v7 K H H2 hR hC e5 e6 e7 e23 h
        refine goC ι _ H2 hR e5 e6 e23 fun ι1 a1 a2 a3 a4 a5 => ?_
        rw [if_neg hsum] at a3
        have hFr : Fr fL ι ι1 := a5.wide fun t i j q => by omega
        exact e_CR_readLengths_197 ⟨by omega, s_len_err (by rw [a3]; omega) (h ι1 (hR.fr a5 (fun j => by omega) (by rw [a5 0 0 1 (by omega)]; exact hR.1) a3) (fun e => by omega) hFr)⟩
      · intro ι st v10 v11 K H hst hst2 hR hC e71 h hh
        refine goM ι st v10 v11 _ fun v8 => ?_
        have key := m_len189 (sc := sc) (K := K) (H := H) (st := st) (n := n) (many := many) (F := F) (S := S) (x5 := lt) (x6 := bm) (x7 := tm) (L := L) (a := a) (v8 := v8) hn15 ⟨by omega, hfit⟩ hF.1 ha ⟨hst, by omega⟩ ⟨hS.1, by omega⟩ many.toNat 0 ι (by omega) e71 (fun e => absurd e hsum) (fun _ ι1 a1 a2 => ?_)
        · rw [tk0, show F + ((0 : Nat) : Int) = F by omega, show S + 0 = S by omega] at key
          exact key
        · have hFr : Fr (gL st a) ι ι1 := a2.wide fun t i j q => by omega
          exact hh (by omega) ι1 (hR.fr a2 (fun j => by omega) (by rw [a2 13 0 16 (by omega)]; exact hR.1)) a1 hFr
  · -- more than are left
    refine ⟨p, 14, L, by omega, hp.2, Or.inr (Or.inl rfl), fun e => by omega, ?_, ?_⟩
    · intro ι v2 v6 v7 K H H2 hR hC e5 e6 e7 e23 h
      refine e_CR_come_0 ⟨by omega, bif_t (by omega) (s_broken (fun _ => s_fine (fun e => absurd e (show ¬ _ = (0 : Int) by simp (disch := omega) only [up_s, up_k, up_j, up_i]; omega)) (fun _ => bif_t rfl ?_)) (fun e => absurd hR.2.2.1 e))⟩
      have hFr : Fr fL ι (up ι 0 0 3 14) := (Fr.refl _ _).u (by omega)
      exact e_CR_readLengths_197 ⟨by omega, s_len_err (by simp (disch := omega) only [up_s, up_k, up_j, up_i]; omega) (h _ (hR.fr hFr (fun j => by omega) (by simp (disch := omega) only [up_s, up_k, up_j, up_i]; exact hR.1) (by simp (disch := omega) only [up_s, up_k, up_j, up_i])) (fun e => by omega) hFr)⟩
    · intro ι st v10 v11 K H hst hst2 hR hC e71 h hh
      have hFr : Fr (gL st a) ι (up ι 12 0 6 14) := (Fr.refl _ _).u (by omega)
      exact e_M_readLengths_145 ⟨by omega, bif_f (by omega) (m_fail (hh (by omega) _ (hR.fr hFr (fun j => by omega) (by simp (disch := omega) only [up_s, up_k, up_j, up_i]; exact hR.1)) (by simp (disch := omega) only [up_s, up_k, up_j, up_i]) hFr))⟩
end Lens2
