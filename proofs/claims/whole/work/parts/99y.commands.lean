/-! pack: commands are added -/
section Commands
variable {sc : bm_Sc} {ι : bm_S} {H : Nat × Int → bm_S → Prop} {K : bm_S → Prop} {A : Int → Int → Int} {rg : Int → Int} {m : Int}
def adA (A : Int → Int → Int) (m a0 a1 a2 a3 a4 a5 a6 : Int) : Int → Int → Int := fun w k => if k = m then (if w = 0 then a0 else if w = 1 then a1 else if w = 2 then a2 else if w = 3 then a3 else if w = 4 then a4 else if w = 5 then a5 else a6) else A w k
theorem adA_n {a0 a1 a2 a3 a4 a5 a6 w k : Int} (h : k ≠ m) : adA A m a0 a1 a2 a3 a4 a5 a6 w k = A w k := if_neg h
theorem adA_0 {a0 a1 a2 a3 a4 a5 a6 : Int} : adA A m a0 a1 a2 a3 a4 a5 a6 0 m = a0 ∧ adA A m a0 a1 a2 a3 a4 a5 a6 1 m = a1 ∧ adA A m a0 a1 a2 a3 a4 a5 a6 2 m = a2 ∧ adA A m a0 a1 a2 a3 a4 a5 a6 3 m = a3 ∧ adA A m a0 a1 a2 a3 a4 a5 a6 4 m = a4 ∧ adA A m a0 a1 a2 a3 a4 a5 a6 5 m = a5 ∧ adA A m a0 a1 a2 a3 a4 a5 a6 6 m = a6 := by
  have e : ∀ w : Int, adA A m a0 a1 a2 a3 a4 a5 a6 w m = (if w = 0 then a0 else if w = 1 then a1 else if w = 2 then a2 else if w = 3 then a3 else if w = 4 then a4 else if w = 5 then a5 else a6) := fun w => if_pos rfl
  exact ⟨e 0, e 1, e 2, e 3, e 4, e 5, e 6⟩
def CmC (ι : bm_S) (m : Int) (A : Int → Int → Int) (rg : Int → Int) : Prop := ι 9 0 4 = m ∧ (∀ k, 0 ≤ k → k < m → ι 55 0 k = A 0 k ∧ ι 56 0 k = A 1 k ∧ ι 57 0 k = A 2 k ∧ ι 58 0 k = A 3 k ∧ ι 59 0 k = A 4 k ∧ ι 60 0 k = A 5 k) ∧ ∀ i, 0 ≤ i → i < 4 → ι 63 0 i = rg i
def CmM (ι : bm_S) (m : Int) (A : Int → Int → Int) (rg : Int → Int) : Prop := ι 13 0 63 = m ∧ (∀ k, 0 ≤ k → k < m → ι 104 0 (4 * k) = A 0 k ∧ ι 104 0 (4 * k + 1) = A 1 k ∧ ι 104 0 (4 * k + 2) = A 2 k ∧ ι 104 0 (4 * k + 3) = A 3 k ∧ ι 105 0 k = A 4 k ∧ ι 106 0 k = A 6 k) ∧ ∀ i, 0 ≤ i → i < 4 → ι 107 0 (3 - i) = rg i
abbrev fCm (t : Nat) (_ j : Int) : Prop := 55 ≤ t ∧ t ≤ 60 ∨ t = 63 ∨ t = 9 ∧ j = 4
abbrev gCm (t : Nat) (_ j : Int) : Prop := 104 ≤ t ∧ t ≤ 107 ∨ t = 13 ∧ j = 63
theorem CmM.add {a0 a1 a2 a3 a4 a5 a6 : Int} (h : CmM ι m A rg) : CmM (up (up (up (up (up (up (up ι 104 0 (4 * m) a0) 104 0 (4 * m + 1) a1) 104 0 (4 * m + 2) a2) 104 0 (4 * m + 3) a3) 105 0 m a4) 106 0 m a6) 13 0 63 (m + 1)) (m + 1) (adA A m a0 a1 a2 a3 a4 a5 a6) rg := by
  have q := adA_0 (A := A) (m := m) (a0 := a0) (a1 := a1) (a2 := a2) (a3 := a3) (a4 := a4) (a5 := a5) (a6 := a6)
  refine ⟨by simp (disch := omega) only [up_s, up_k, up_j, up_i], fun k k0 k1 => ?_, fun i x y => by simp (disch := omega) only [up_s, up_k, up_j, up_i]; exact h.2.2 i x y⟩
  by_cases z : k = m
  · rw [z, q.1, q.2.1, q.2.2.1, q.2.2.2.1, q.2.2.2.2.1, q.2.2.2.2.2.2]
    refine ⟨by simp (disch := omega) only [up_s, up_k, up_j, up_i], by simp (disch := omega) only [up_s, up_k, up_j, up_i], by simp (disch := omega) only [up_s, up_k, up_j, up_i], by simp (disch := omega) only [up_s, up_k, up_j, up_i], by simp (disch := omega) only [up_s, up_k, up_j, up_i], by simp (disch := omega) only [up_s, up_k, up_j, up_i]⟩
  · rw [adA_n z, adA_n z, adA_n z, adA_n z, adA_n z, adA_n z]
    have h2 := h.2.1 k k0 (by omega)
    refine ⟨by simp (disch := omega) only [up_s, up_k, up_j, up_i]; exact h2.1, by simp (disch := omega) only [up_s, up_k, up_j, up_i]; exact h2.2.1, by simp (disch := omega) only [up_s, up_k, up_j, up_i]; exact h2.2.2.1, by simp (disch := omega) only [up_s, up_k, up_j, up_i]; exact h2.2.2.2.1, by simp (disch := omega) only [up_s, up_k, up_j, up_i]; exact h2.2.2.2.2.1, by simp (disch := omega) only [up_s, up_k, up_j, up_i]; exact h2.2.2.2.2.2⟩
theorem F_add {a0 a1 a2 a3 a4 a6 : Int} : Fr gCm ι (up (up (up (up (up (up (up ι 104 0 (4 * m) a0) 104 0 (4 * m + 1) a1) 104 0 (4 * m + 2) a2) 104 0 (4 * m + 3) a3) 105 0 m a4) 106 0 m a6) 13 0 63 (m + 1)) := (((((((Fr.refl _ _).u (by omega)).u (by omega)).u (by omega)).u (by omega)).u (by omega)).u (by omega)).u (by omega)
theorem m_ringP {Q : bm_O → bm_S → Prop} {d : Int} {v1 v2 v4 v5 v6 v7 v8 v9 : bm_V} (hC : CmM ι m A rg) (h : ∀ ι' : bm_S, CmM ι' m A (rp rg d) → Fr gCm ι ι' → Q (.inl none) ι') : bW sc 252 217 [br 13 0, v1, v2, bi d, v4, v5, v6, v7, v8, v9, bi 0] [] ι Q := by
  obtain ⟨a1, a2, a4⟩ := hC
  refine e_M_addCommand_217 (bif_f (by omega) ⟨by omega, by omega, by omega, by omega, e_M_addCommand_217 (bif_f (by omega) ⟨by omega, by omega, by omega, by omega, e_M_addCommand_217 (bif_f (by omega) ⟨by omega, by omega, by omega, by omega, e_M_addCommand_217 (bif_t (by omega) ⟨by omega, e_M_addCommand_252 ?_⟩)⟩)⟩)⟩)
  have hF : Fr (fun t i j => t = 107) ι (up (up (up (up ι 107 0 0 (ι 107 0 (0 + 1))) 107 0 (0 + 1) ((up ι 107 0 0 (ι 107 0 (0 + 1))) 107 0 (0 + 1 + 1))) 107 0 (0 + 1 + 1) ((up (up ι 107 0 0 (ι 107 0 (0 + 1))) 107 0 (0 + 1) ((up ι 107 0 0 (ι 107 0 (0 + 1))) 107 0 (0 + 1 + 1))) 107 0 (0 + 1 + 1 + 1))) 107 0 3 d) := ((((Fr.refl _ _).u rfl).u rfl).u rfl).u rfl
  refine h _ ⟨by rw [hF 13 0 63 (by omega)]; exact a1, fun k x y => ?_, fun i x y => ?_⟩ (hF.wide fun t i j q => by omega)
  · have := a2 k x y
    rw [hF 104 0 _ (by omega), hF 104 0 _ (by omega), hF 104 0 _ (by omega), hF 104 0 _ (by omega), hF 105 0 _ (by omega), hF 106 0 _ (by omega)]
    exact this
  · have q0 := a4 0 (by omega) (by omega)
    have q1 := a4 1 (by omega) (by omega)
    have q2 := a4 2 (by omega) (by omega)
    rw [show (3 - 0 : Int) = 3 by omega] at q0
    rw [show (3 - 1 : Int) = 2 by omega] at q1
    rw [show (3 - 2 : Int) = 1 by omega] at q2
    have : i = 0 ∨ i = 1 ∨ i = 2 ∨ i = 3 := by omega
    rcases this with rfl | rfl | rfl | rfl
    · rw [show (3 - 0 : Int) = 3 by omega]; simp (disch := omega) only [up_s, up_k, up_j, up_i]; rfl
    · rw [show (3 - 1 : Int) = 2 by omega]; simp (disch := omega) only [up_s, up_k, up_j, up_i]; exact q0
    · rw [show (3 - 2 : Int) = 1 by omega]; simp (disch := omega) only [up_s, up_k, up_j, up_i]; exact q1
    · rw [show (3 - 3 : Int) = 0 by omega]; simp (disch := omega) only [up_s, up_k, up_j, up_i]; exact q2
theorem cod24 (t : Int → Int) (v : Int) : 0 ≤ cod t v 24 ∧ cod t v 24 < 24 := by have q : 0 ≤ cod t v 24 ∧ cod t v 24 ≤ ((23 : Nat) : Int) := cod_rg t v 23; omega
theorem clv_rg {a b s : Int} (hb : 0 ≤ b ∧ b < 24) : 0 ≤ clv a b s ∧ clv a b s ≤ 10 := by
  unfold clv
  have := cel_rg (a / 8) (b / 8)
  split <;> omega
theorem csg_rg {a b s : Int} (ha : 0 ≤ a) (hb : 0 ≤ b ∧ b < 24) : 0 ≤ csg a b s ∧ csg a b s < 704 ∧ (128 ≤ csg a b s ↔ 2 ≤ clv a b s) := by
  have := clv_rg (a := a) (s := s) hb
  unfold csg
  omega
theorem m_addCmd {x1 x2 d f5 MK : Int} (hf5 : f5 = 0 ∨ f5 = 1) (hm : 0 ≤ m ∧ m < 1000) (hd : 1 ≤ d ∧ d + 3 < 4096) (hC : CmM ι m A rg) (h : ∀ ι' : bm_S, CmM ι' (m + 1) (adA A m x1 x2 d (csg (cod ia x1 24) (cod ya x2 24) (sgn rg d)) (if 128 ≤ csg (cod ia x1 24) (cod ya x2 24) (sgn rg d) then sgn rg d else -1) MK x2) (if f5 = 1 ∧ sgn rg d ≠ 0 then rp rg d else rg) → Fr gCm ι ι' → K ι') : bC sc 252 [br 13 0, bi x1, bi x2, bi d, bi 0, bi f5] ι (bk0 K H) := by
  have ha := cod24 ia x1
  have hb := cod24 ya x2
  have hs := sgn_rg (rg := rg) hd
  have hq := csg_rg (a := cod ia x1 24) (b := cod ya x2 24) (s := sgn rg d) ha.1 hb
  have hcl := clv_rg (a := cod ia x1 24) (b := cod ya x2 24) (s := sgn rg d) hb
  have eS : csg (cod ia x1 24) (cod ya x2 24) (sgn rg d) = 64 * clv (cod ia x1 24) (cod ya x2 24) (sgn rg d) + 8 * (cod ia x1 24 % 8) + cod ya x2 24 % 8 := rfl
  -- at the end
  have e252 : ∀ (BS : Int) (v6 v7 v8 v9 v10 : bm_V), BS = (if 128 ≤ csg (cod ia x1 24) (cod ya x2 24) (sgn rg d) then sgn rg d else -1) → ¬ (f5 = 1 ∧ sgn rg d ≠ 0) → bW sc 252 252 [br 13 0, bi x1, bi x2, bi d, bi 0, bi f5, v6, v7, v8, v9, v10] [] (up (up (up (up (up (up (up ι 104 0 (4 * m) x1) 104 0 (4 * m + 1) x2) 104 0 (4 * m + 2) d) 104 0 (4 * m + 3) (64 * clv (cod ia x1 24) (cod ya x2 24) (sgn rg d) + 8 * (cod ia x1 24 % 8) + cod ya x2 24 % 8)) 105 0 m BS) 106 0 m x2) 13 0 63 (m + 1)) (bk0 K H) := fun BS v6 v7 v8 v9 v10 eB hn => by
    refine e_M_addCommand_252 (h _ ?_ F_add)
    rw [if_neg hn, eS, ← eS, ← eB]
    exact hC.add
  have e217 : ∀ (BS : Int) (v6 v7 v8 v9 : bm_V), BS = (if 128 ≤ csg (cod ia x1 24) (cod ya x2 24) (sgn rg d) then sgn rg d else -1) → (f5 = 1 ∧ sgn rg d ≠ 0) → bW sc 252 217 [br 13 0, bi x1, bi x2, bi d, bi 0, bi f5, v6, v7, v8, v9, bi 0] [] (up (up (up (up (up (up (up ι 104 0 (4 * m) x1) 104 0 (4 * m + 1) x2) 104 0 (4 * m + 2) d) 104 0 (4 * m + 3) (64 * clv (cod ia x1 24) (cod ya x2 24) (sgn rg d) + 8 * (cod ia x1 24 % 8) + cod ya x2 24 % 8)) 105 0 m BS) 106 0 m x2) 13 0 63 (m + 1)) (bk0 K H) := fun BS v6 v7 v8 v9 eB hn => by
    refine m_ringP (m := m + 1) (A := adA A m x1 x2 d (csg (cod ia x1 24) (cod ya x2 24) (sgn rg d)) (if 128 ≤ csg (cod ia x1 24) (cod ya x2 24) (sgn rg d) then sgn rg d else -1) MK x2) (rg := rg) ?_ (fun ι' z F => h ι' (by rw [if_pos hn]; exact z) (F_add.trans F))
    rw [eS, ← eS, ← eB]
    exact hC.add
  refine e_M_addCommand_0 (bif_t rfl (m_signOf hd hC.2.2 (m_codeOf (Or.inr ⟨rfl, rfl⟩) (m_codeOf (Or.inl ⟨rfl, rfl⟩) ?_))))
  have go57 : clv (cod ia x1 24) (cod ya x2 24) (sgn rg d) = cel (cod ia x1 24 / 8) (cod ya x2 24 / 8) → bW sc 252 57 [br 13 0, bi x1, bi x2, bi d, bi 0, bi f5, bi (sgn rg d), bi (cod ia x1 24), bi (cod ya x2 24), bu, bu] [] ι (bk0 K H) := fun ec => by
    have hcr := cel_rg (cod ia x1 24 / 8) (cod ya x2 24 / 8)
    rw [ec] at e252 e217 hq
    refine e_M_addCommand_57 ⟨by omega, by omega, m_cellOf (by omega) (by omega) ?_⟩
    rw [hC.1]
    have eB : sgn rg d = (if 128 ≤ csg (cod ia x1 24) (cod ya x2 24) (sgn rg d) then sgn rg d else -1) := by rw [if_pos (hq.2.2.mpr hcr.1)]
    refine ⟨by omega, by omega, by omega, by omega, bif_t rfl ⟨by omega, by omega, by omega, bif_t rfl ⟨by omega, by omega, by omega, by omega, by omega, by omega, by omega, by omega, by omega, by omega, bif_t hcr.1 ⟨by omega, by omega, by omega, bif_i (fun z => e252 _ _ _ _ _ _ eB (by omega)) (fun z => bif_i (fun z1 => e252 _ _ _ _ _ _ eB (fun w => w.2 z1)) (fun z1 => e217 _ _ _ _ _ eB ⟨by omega, z1⟩))⟩⟩⟩⟩
  refine bif_i (fun z => bif_i (fun z1 => go57 ?_) (fun z1 => bif_i (fun z2 => go57 ?_) (fun z2 => ?_))) (fun z => go57 ?_)
  · unfold clv; rw [if_neg (by omega)]
  · unfold clv; rw [if_neg (by omega)]
  · have ec : clv (cod ia x1 24) (cod ya x2 24) (sgn rg d) = cod ya x2 24 / 8 := by unfold clv; rw [if_pos (by omega)]
    rw [ec] at e252 hq
    have eB : (-1 : Int) = (if 128 ≤ csg (cod ia x1 24) (cod ya x2 24) (sgn rg d) then sgn rg d else -1) := by rw [if_neg (fun w => by have := hq.2.2.mp w; omega)]
    rw [hC.1]
    refine ⟨by omega, by omega, by omega, by omega, by omega, bif_t rfl ⟨by omega, by omega, by omega, bif_t rfl ⟨by omega, by omega, by omega, by omega, by omega, by omega, by omega, by omega, by omega, by omega, bif_f (by omega) ⟨by omega, by omega, by omega, bif_i (fun z3 => e252 _ _ _ _ _ _ eB (fun w => w.2 z)) (fun z3 => bif_t z (e252 _ _ _ _ _ _ eB (fun w => w.2 z)))⟩⟩⟩⟩
  · unfold clv; rw [if_neg (by omega)]
theorem m_addEnd {x1 MK : Int} (hm : 0 ≤ m ∧ m < 1000) (hC : CmM ι m A rg) (h : ∀ ι' : bm_S, CmM ι' (m + 1) (adA A m x1 0 0 (csg (cod ia x1 24) 0 (-1)) (-1) MK 2) rg → Fr gCm ι ι' → K ι') : bC sc 252 [br 13 0, bi x1, bi 2, bi 0, bi 1, bi 0] ι (bk0 K H) := by
  have ha := cod24 ia x1
  have e2 : cod ya 2 24 = 0 := by decide +kernel
  have hcr := cel_rg (cod ia x1 24 / 8) 0
  have ec : csg (cod ia x1 24) 0 (-1) = 64 * cel (cod ia x1 24 / 8) 0 + 8 * (cod ia x1 24 % 8) + 0 % 8 := by unfold csg clv; rw [if_neg (by omega)]; rfl
  refine e_M_addCommand_0 (bif_f (by omega) (m_codeOf (Or.inr ⟨rfl, rfl⟩) (m_codeOf (Or.inl ⟨rfl, rfl⟩) ?_)))
  rw [e2]
  refine e_M_addCommand_57 ⟨by omega, by omega, m_cellOf (by omega) (by omega) ?_⟩
  rw [hC.1, show (0 : Int) / 8 = 0 from rfl]
  refine ⟨by omega, by omega, by omega, by omega, bif_f (by omega) ⟨by omega, by omega, by omega, bif_f (by omega) ⟨by omega, by omega, by omega, by omega, by omega, by omega, by omega, by omega, by omega, by omega, bif_t hcr.1 ⟨by omega, by omega, by omega, bif_t rfl (e_M_addCommand_252 (h _ ?_ F_add))⟩⟩⟩⟩
  rw [ec]
  exact hC.add
end Commands
