/-! the lengths of a code told at length: the loop; a code -/
section Lens3
variable {sc : bm_Sc} {β : Int → Int} {lim : Int}
theorem nm2 {p : Int} (hβ : ∀ q, β q = 0 ∨ β q = 1) : 0 ≤ nm β p (Int.toNat 2) ∧ nm β p (Int.toNat 2) ≤ 3 := by
  have h := nm_rg (p := p) hβ 2
  have e : bm_p2 ((2 : Nat) : Int) = 4 := rfl
  have e2 : nm β p (Int.toNat 2) = nm β p 2 := rfl
  omega
theorem nm3 {p : Int} (hβ : ∀ q, β q = 0 ∨ β q = 1) : 0 ≤ nm β p (Int.toNat 3) ∧ nm β p (Int.toNat 3) ≤ 7 := by
  have h := nm_rg (p := p) hβ 3
  have e : bm_p2 ((3 : Nat) : Int) = 8 := rfl
  have e2 : nm β p (Int.toNat 3) = nm β p 3 := rfl
  omega
theorem j_len {a : Nat} (ha : 2 ≤ a ∧ a ≤ 704) (hw : wfβ β lim) {lm : Int} {LM : Int → Int} (hO : CodeOK lm LM 18) : ∀ (d : Nat) (p k F S lt bc rn bm tm : Int) (L : Int → Int), (a : Int) - F ≤ d → LenH a lim p k F S lt bc rn bm tm L → LenS sc β lim a lm LM p k F S lt bc rn bm tm L := by
  intro d
  induction d with
  | zero =>
    intro p k F S lt bc rn bm tm L hd hH
    have h1 := hH.1
    exact j_len_exit hH (Or.inr (by omega))
  | succ d ih =>
    intro p k F S lt bc rn bm tm L hd hH
    by_cases hx : S = 32768 ∨ F = a
    · exact j_len_exit hH hx
    · obtain ⟨h1, h2, h3, h4, h5, h6, h7, h8, h9⟩ := hH
      have hL18 : (18 : Int) ≤ bm_L 22 73 := by rw [L22_73]; omega
      obtain ⟨p1, r1, s, i1, i2, i3, i4, i5, i6⟩ := j_signT (sc := sc) (a := 18) hw (by omega) hO p h3.1 h3.2
      -- the mark is read
      have goC : ∀ (ι : bm_S) (v5 v6 v7 : bm_V) (Q : bm_O → bm_S → Prop), cR ι β lim p 0 → CodeC ι 73 lm LM 18 → ι 4 0 5 = F → ι 4 0 6 = S → (∀ ι' : bm_S, cR ι' β lim p1 r1 → Fr fR ι ι' → ((if (16 : Int) ≤ (if r1 = 0 then (s : Int) else 0) then (if (if r1 = 0 then (s : Int) else 0) = (16 : Int) then bC sc 4 [br 0 0, bi 2] ι' (bk1 (fun r12 ι12 => (bm_rg (r12 + 3)) ∧ (if (if r1 = 0 then (s : Int) else 0) = bc then (if rn = (0 : Int) then (if (if r1 = 0 then (s : Int) else 0) = (16 : Int) then (bm_rg (r12 + 3 - rn)) ∧ bC sc 34 [br 4 0, bi (ι12 4 0 7), bi (r12 + 3 - rn), bi (a : Int)] ι12 (bk0 (fun ι20 => bW sc 33 197 [br 4 0, bi (a : Int), bi bc, bi (r12 + 3), bi k, bi (if r1 = 0 then (s : Int) else 0), bi (r12 + 3), bi rn] [] ι20 Q) (bq Q)) else (bm_rg (r12 + 3 - rn)) ∧ bC sc 34 [br 4 0, bi 0, bi (r12 + 3 - rn), bi (a : Int)] ι12 (bk0 (fun ι19 => bW sc 33 197 [br 4 0, bi (a : Int), bi bc, bi (r12 + 3), bi k, bi (if r1 = 0 then (s : Int) else 0), bi (r12 + 3), bi rn] [] ι19 Q) (bq Q))) else (if (if r1 = 0 then (s : Int) else 0) = (16 : Int) then (bm_rg (rn - 2)) ∧ (bm_rg (4 * (rn - 2))) ∧ (bm_rg (4 * (rn - 2) + (r12 + 3))) ∧ (if (if r1 = 0 then (s : Int) else 0) = (16 : Int) then (bm_rg (4 * (rn - 2) + (r12 + 3) - rn)) ∧ bC sc 34 [br 4 0, bi (ι12 4 0 7), bi (4 * (rn - 2) + (r12 + 3) - rn), bi (a : Int)] ι12 (bk0 (fun ι18 => bW sc 33 197 [br 4 0, bi (a : Int), bi bc, bi (4 * (rn - 2) + (r12 + 3)), bi k, bi (if r1 = 0 then (s : Int) else 0), bi (r12 + 3), bi rn] [] ι18 Q) (bq Q)) else (bm_rg (4 * (rn - 2) + (r12 + 3) - rn)) ∧ bC sc 34 [br 4 0, bi 0, bi (4 * (rn - 2) + (r12 + 3) - rn), bi (a : Int)] ι12 (bk0 (fun ι17 => bW sc 33 197 [br 4 0, bi (a : Int), bi bc, bi (4 * (rn - 2) + (r12 + 3)), bi k, bi (if r1 = 0 then (s : Int) else 0), bi (r12 + 3), bi rn] [] ι17 Q) (bq Q))) else (bm_rg (rn - 2)) ∧ (bm_rg (8 * (rn - 2))) ∧ (bm_rg (8 * (rn - 2) + (r12 + 3))) ∧ (if (if r1 = 0 then (s : Int) else 0) = (16 : Int) then (bm_rg (8 * (rn - 2) + (r12 + 3) - rn)) ∧ bC sc 34 [br 4 0, bi (ι12 4 0 7), bi (8 * (rn - 2) + (r12 + 3) - rn), bi (a : Int)] ι12 (bk0 (fun ι16 => bW sc 33 197 [br 4 0, bi (a : Int), bi bc, bi (8 * (rn - 2) + (r12 + 3)), bi k, bi (if r1 = 0 then (s : Int) else 0), bi (r12 + 3), bi rn] [] ι16 Q) (bq Q)) else (bm_rg (8 * (rn - 2) + (r12 + 3) - rn)) ∧ bC sc 34 [br 4 0, bi 0, bi (8 * (rn - 2) + (r12 + 3) - rn), bi (a : Int)] ι12 (bk0 (fun ι15 => bW sc 33 197 [br 4 0, bi (a : Int), bi bc, bi (8 * (rn - 2) + (r12 + 3)), bi k, bi (if r1 = 0 then (s : Int) else 0), bi (r12 + 3), bi rn] [] ι15 Q) (bq Q))))) else (if (if r1 = 0 then (s : Int) else 0) = (16 : Int) then (bm_rg (r12 + 3 - 0)) ∧ bC sc 34 [br 4 0, bi (ι12 4 0 7), bi (r12 + 3 - 0), bi (a : Int)] ι12 (bk0 (fun ι14 => bW sc 33 197 [br 4 0, bi (a : Int), bi bc, bi (r12 + 3), bi k, bi (if r1 = 0 then (s : Int) else 0), bi (r12 + 3), bi 0] [] ι14 Q) (bq Q)) else (bm_rg (r12 + 3 - 0)) ∧ bC sc 34 [br 4 0, bi 0, bi (r12 + 3 - 0), bi (a : Int)] ι12 (bk0 (fun ι13 => bW sc 33 197 [br 4 0, bi (a : Int), bi bc, bi (r12 + 3), bi k, bi (if r1 = 0 then (s : Int) else 0), bi (r12 + 3), bi 0] [] ι13 Q) (bq Q))))) (bq Q)) else bC sc 4 [br 0 0, bi 3] ι' (bk1 (fun r3 ι3 => (bm_rg (r3 + 3)) ∧ (if (if r1 = 0 then (s : Int) else 0) = bc then (if rn = (0 : Int) then (if (if r1 = 0 then (s : Int) else 0) = (16 : Int) then (bm_rg (r3 + 3 - rn)) ∧ bC sc 34 [br 4 0, bi (ι3 4 0 7), bi (r3 + 3 - rn), bi (a : Int)] ι3 (bk0 (fun ι11 => bW sc 33 197 [br 4 0, bi (a : Int), bi bc, bi (r3 + 3), bi k, bi (if r1 = 0 then (s : Int) else 0), bi (r3 + 3), bi rn] [] ι11 Q) (bq Q)) else (bm_rg (r3 + 3 - rn)) ∧ bC sc 34 [br 4 0, bi 0, bi (r3 + 3 - rn), bi (a : Int)] ι3 (bk0 (fun ι10 => bW sc 33 197 [br 4 0, bi (a : Int), bi bc, bi (r3 + 3), bi k, bi (if r1 = 0 then (s : Int) else 0), bi (r3 + 3), bi rn] [] ι10 Q) (bq Q))) else (if (if r1 = 0 then (s : Int) else 0) = (16 : Int) then (bm_rg (rn - 2)) ∧ (bm_rg (4 * (rn - 2))) ∧ (bm_rg (4 * (rn - 2) + (r3 + 3))) ∧ (if (if r1 = 0 then (s : Int) else 0) = (16 : Int) then (bm_rg (4 * (rn - 2) + (r3 + 3) - rn)) ∧ bC sc 34 [br 4 0, bi (ι3 4 0 7), bi (4 * (rn - 2) + (r3 + 3) - rn), bi (a : Int)] ι3 (bk0 (fun ι9 => bW sc 33 197 [br 4 0, bi (a : Int), bi bc, bi (4 * (rn - 2) + (r3 + 3)), bi k, bi (if r1 = 0 then (s : Int) else 0), bi (r3 + 3), bi rn] [] ι9 Q) (bq Q)) else (bm_rg (4 * (rn - 2) + (r3 + 3) - rn)) ∧ bC sc 34 [br 4 0, bi 0, bi (4 * (rn - 2) + (r3 + 3) - rn), bi (a : Int)] ι3 (bk0 (fun ι8 => bW sc 33 197 [br 4 0, bi (a : Int), bi bc, bi (4 * (rn - 2) + (r3 + 3)), bi k, bi (if r1 = 0 then (s : Int) else 0), bi (r3 + 3), bi rn] [] ι8 Q) (bq Q))) else (bm_rg (rn - 2)) ∧ (bm_rg (8 * (rn - 2))) ∧ (bm_rg (8 * (rn - 2) + (r3 + 3))) ∧ (if (if r1 = 0 then (s : Int) else 0) = (16 : Int) then (bm_rg (8 * (rn - 2) + (r3 + 3) - rn)) ∧ bC sc 34 [br 4 0, bi (ι3 4 0 7), bi (8 * (rn - 2) + (r3 + 3) - rn), bi (a : Int)] ι3 (bk0 (fun ι7 => bW sc 33 197 [br 4 0, bi (a : Int), bi bc, bi (8 * (rn - 2) + (r3 + 3)), bi k, bi (if r1 = 0 then (s : Int) else 0), bi (r3 + 3), bi rn] [] ι7 Q) (bq Q)) else (bm_rg (8 * (rn - 2) + (r3 + 3) - rn)) ∧ bC sc 34 [br 4 0, bi 0, bi (8 * (rn - 2) + (r3 + 3) - rn), bi (a : Int)] ι3 (bk0 (fun ι6 => bW sc 33 197 [br 4 0, bi (a : Int), bi bc, bi (8 * (rn - 2) + (r3 + 3)), bi k, bi (if r1 = 0 then (s : Int) else 0), bi (r3 + 3), bi rn] [] ι6 Q) (bq Q))))) else (if (if r1 = 0 then (s : Int) else 0) = (16 : Int) then (bm_rg (r3 + 3 - 0)) ∧ bC sc 34 [br 4 0, bi (ι3 4 0 7), bi (r3 + 3 - 0), bi (a : Int)] ι3 (bk0 (fun ι5 => bW sc 33 197 [br 4 0, bi (a : Int), bi bc, bi (r3 + 3), bi k, bi (if r1 = 0 then (s : Int) else 0), bi (r3 + 3), bi 0] [] ι5 Q) (bq Q)) else (bm_rg (r3 + 3 - 0)) ∧ bC sc 34 [br 4 0, bi 0, bi (r3 + 3 - 0), bi (a : Int)] ι3 (bk0 (fun ι4 => bW sc 33 197 [br 4 0, bi (a : Int), bi bc, bi (r3 + 3), bi k, bi (if r1 = 0 then (s : Int) else 0), bi (r3 + 3), bi 0] [] ι4 Q) (bq Q))))) (bq Q))) else (if (if r1 = 0 then (s : Int) else 0) ≤ (0 : Int) then bC sc 34 [br 4 0, bi (if r1 = 0 then (s : Int) else 0), bi 1, bi (a : Int)] (up ι' 4 0 7 (ι' 4 0 7)) (bk0 (fun ι21 => bW sc 33 197 [br 4 0, bi (a : Int), bi bc, bi rn, bi k, bi (if r1 = 0 then (s : Int) else 0), v6, v7] [] ι21 Q) (bq Q)) else bC sc 34 [br 4 0, bi (if r1 = 0 then (s : Int) else 0), bi 1, bi (a : Int)] (up ι' 4 0 7 (if r1 = 0 then (s : Int) else 0)) (bk0 (fun ι22 => bW sc 33 197 [br 4 0, bi (a : Int), bi bc, bi rn, bi k, bi (if r1 = 0 then (s : Int) else 0), v6, v7] [] ι22 Q) (bq Q)))))) → bW sc 33 23 [br 4 0, bi (a : Int), bi bc, bi rn, bi k, v5, v6, v7] [] ι Q := by
        intro ι v5 v6 v7 Q hR hC e5 e6 h
        exact e_CR_readLengths_23 (bif_f (by omega) (bif_f (by omega) (bif_f (by omega) (s_fine (fun _ => bif_f (by omega) (i5 ι 73 _ _ hL18 hR hC fun ι' g1 g2 => h ι' g1 g2)) (fun e => absurd hR.2.2.1 e)))))
      by_cases hr : r1 = 0
      · -- a mark
        have hbm : ∀ x : Int, 16 ≤ x → (x = bc ↔ bm = x) := fun x q => by omega
        by_cases h16 : (s : Int) < 16
        · -- a length
          have hst := j_len_step (sc := sc) (β := β) (lim := lim) (a := a) (by omega) (lm := lm) (LM := LM) (p := p1) (k := k) (F := F) (S := S) (lt := if (s : Int) ≤ 0 then lt else s) (bc := s) (rn := rn) (bm := 0) (tm := tm) (m := s) (n := s) (many := 1) (L := L) (by omega) (by rw [if_neg (by omega)]) (by omega) (by split <;> omega) (by omega) (by omega) (by omega) (by omega) h5 h6 h7 (fun q1 q2 q3 q4 q5 => ih p1 (k + 1) (F + 1) _ _ _ _ _ _ _ (by omega) ⟨by omega, by omega, by omega, ⟨by unfold tk; split <;> (try omega); have := p15 (n := (s : Int)) (by omega); omega, q2⟩, q3, q4, q5, by split <;> omega, Or.inl ⟨rfl, by omega, by omega⟩⟩)
          obtain ⟨p', r, L', t1, t2, t3, t4, t5, t6⟩ := hst
          refine ⟨p', r, L', by omega, t2, t3, t4, ?_, ?_⟩
          · intro ι v5 v6 v7 K H hR hC e5 e6 e7 e23 h
            refine goC ι v5 v6 v7 _ hR hC e5 e6 fun ι1 a1 a2 => ?_
            rw [hr] at a1
            rw [if_pos hr]
            have e7' : ι1 4 0 7 = lt := by rw [a2 4 0 7 (by omega)]; exact e7
            have hFl : ∀ x, Fr fL ι (up ι1 4 0 7 x) := fun x => (a2.wide fun t i j q => by omega).u (by omega)
            have hFc : ∀ x, Fr (fun t i j => t = 4 ∧ j = 7) ι1 (up ι1 4 0 7 x) := fun x => (Fr.refl _ _).u (by omega)
            have key : ∀ x, x = (if (s : Int) ≤ 0 then lt else s) → bC sc 34 [br 4 0, bi (s : Int), bi 1, bi (a : Int)] (up ι1 4 0 7 x) (bk0 (fun ι20 => bW sc 33 197 [br 4 0, bi (a : Int), bi bc, bi rn, bi k, bi (s : Int), v6, v7] [] ι20 (bk0 K H)) (bq (bk0 K H))) := by
              intro x hx2
              refine t5 _ _ _ _ K H _ (a1.fr (hFc x) (fun j => by omega) (by simp (disch := omega) only [up_s, up_k, up_j, up_i]; exact a1.1) (by simp (disch := omega) only [up_s, up_k, up_j, up_i]; exact a1.2.2.1)) ((hC.fr a2 (fun j => by omega)).fr (hFc x) (fun j => by omega)) (by simp (disch := omega) only [up_s, up_k, up_j, up_i]; rw [a2 4 0 5 (by omega)]; exact e5) (by simp (disch := omega) only [up_s, up_k, up_j, up_i]; rw [a2 4 0 6 (by omega)]; exact e6) (by simp (disch := omega) only [up_s, up_k, up_j, up_i]; exact hx2) (fun q hq => by simp (disch := omega) only [up_s, up_k, up_j, up_i]; rw [a2 23 0 q (by omega)]; exact e23 q hq) fun ι' g1 g2 g3 => h ι' g1 g2 ((hFl x).trans g3)
            exact bif_f (by omega) (bif_i (fun q => by rw [e7']; exact key lt (by rw [if_pos q])) (fun q => key s (by rw [if_neg q])))
          · intro ι st v8 v9 v10 v11 K H hst hst2 hR hC e71 h hh
            refine e_M_readLengths_15 (bif_f (by omega) (bif_f (by omega) (i6 ι 17910 _ _ (by omega) (by omega) hR hC (fun _ ι1 a1 a2 => ?_) (fun e => by omega))))
            have hFl : Fr (gL st a) ι ι1 := a2.wide fun t i j q => by omega
            have key := t6 ι1 st v10 v11 K H hst hst2 a1 (hC.fr a2 (fun q _ => by omega) (by omega)) (fun q hq => by rw [a2 71 0 _ (by omega)]; exact e71 q hq) (fun e ι' g1 g2 g3 => h e ι' g1 g2 (hFl.trans g3)) (fun e ι' g1 g2 g3 => hh e ι' g1 g2 (hFl.trans g3))
            refine bif_f (by omega) (bif_i (fun q => ?_) (fun q => ?_))
            · rw [if_pos q] at key; exact key
            · rw [if_neg q] at key; exact key
        · have w1 := hw.1
          have tkn : ∀ {many : Int}, 1 ≤ lt ∧ lt ≤ 15 → 0 ≤ many → 0 ≤ S + tk lt many := fun {many} q1 q2 => by
            unfold tk
            rw [if_pos (by omega)]
            have := p15 (n := lt) q1
            have := Int.mul_nonneg q2 (show 0 ≤ 32768 / bm_p2 lt by omega)
            omega
          by_cases hs : (s : Int) = 16
          · by_cases hp : p1 + 2 ≤ lim
            · have hv := nm2 (p := p1) w1
              by_cases hsame : bm = 16
              · have hs9 : bc = 16 ∧ rn = tm ∧ 3 ≤ tm ∧ tm ≤ F := by omega
                have hst := j_len_step (sc := sc) (β := β) (lim := lim) (a := a) (by omega) (lm := lm) (LM := LM) (p := p1 + 2) (k := k) (F := F) (S := S) (lt := lt) (bc := 16) (rn := 4 * (rn - 2) + (nm β p1 (Int.toNat 2) + 3)) (bm := 16) (tm := 4 * (tm - 2) + 3 + nm β p1 (Int.toNat 2)) (m := 16) (n := lt) (many := 4 * (rn - 2) + (nm β p1 (Int.toNat 2) + 3) - rn) (L := L) (by omega) (by rw [if_pos (by omega), if_pos rfl]) (by omega) h8 (by omega) (by omega) (by omega) (by omega) h5 h6 h7 (fun q1 q2 q3 q4 q5 => ih (p1 + 2) (k + 1) _ _ _ _ _ _ _ _ (by omega) ⟨by omega, by omega, by omega, ⟨tkn h8 (by omega), q2⟩, q3, q4, q5, h8, Or.inr ⟨by omega, rfl, by omega, by omega, by omega⟩⟩)
                obtain ⟨p', r, L', t1, t2, t3, t4, t5, t6⟩ := hst
                refine ⟨p', r, L', by omega, t2, t3, t4, ?_, ?_⟩
                · intro ι v5 v6 v7 K H hR hC e5 e6 e7 e23 h
                  refine goC ι v5 v6 v7 _ hR hC e5 e6 fun ι1 a1 a2 => ?_
                  rw [hr] at a1
                  rw [if_pos hr, hs]
                  have e7' : up ι1 0 0 1 (p1 + 2) 4 0 7 = lt := by simp (disch := omega) only [up_s, up_k, up_j, up_i]; rw [a2 4 0 7 (by omega)]; exact e7
                  have hF2 : Fr fR ι (up ι1 0 0 1 (p1 + 2)) := a2.u (by omega)
                  refine bif_t (by omega) (bif_t (by omega) (s_number hw (by omega) (by omega) a1 ⟨by omega, bif_t (by omega) (bif_f (by omega) (bif_t (by omega) ⟨by omega, by omega, by omega, bif_t (by omega) ⟨by omega, ?_⟩⟩))⟩))
                  rw [e7']
                  exact t5 _ _ _ _ K H _ a1.to (hC.fr hF2 (fun j => by omega)) (by rw [hF2 4 0 5 (by omega)]; exact e5) (by rw [hF2 4 0 6 (by omega)]; exact e6) e7' (fun q hq => by rw [hF2 23 0 q (by omega)]; exact e23 q hq) fun ι' g1 g2 g3 => h ι' g1 g2 ((hF2.wide fun t i j q => by omega).trans g3)
                · intro ι st v8 v9 v10 v11 K H hst hst2 hR hC e71 h hh
                  refine e_M_readLengths_15 (bif_f (by omega) (bif_f (by omega) (i6 ι 17910 _ _ (by omega) (by omega) hR hC (fun _ ι1 a1 a2 => ?_) (fun e => by omega))))
                  rw [hs]
                  have hF2 : Fr gR ι (up ι1 13 0 16 (p1 + 2)) := a2.u (by omega)
                  have hFl : Fr (gL st a) ι (up ι1 13 0 16 (p1 + 2)) := hF2.wide fun t i j q => by omega
                  have key := t6 (up ι1 13 0 16 (p1 + 2)) st (bi (nm β p1 (Int.toNat 2))) (bi (4 * (tm - 2) + 3 + nm β p1 (Int.toNat 2))) K H hst hst2 a1.to (hC.fr hF2 (fun q _ => by omega) (by omega)) (fun q hq => by rw [hF2 71 0 _ (by omega)]; exact e71 q hq) (fun e ι' g1 g2 g3 => h e ι' g1 g2 (hFl.trans g3)) (fun e ι' g1 g2 g3 => hh e ι' g1 g2 (hFl.trans g3))
                  rw [show 4 * (rn - 2) + (nm β p1 (Int.toNat 2) + 3) - rn = 4 * (tm - 2) + 3 + nm β p1 (Int.toNat 2) - tm by omega] at key
                  refine bif_t (by omega) ⟨by omega, ?_⟩
                  rw [show (16 : Int) - 14 = 2 by omega]
                  exact m_number hw (by omega) (by omega) a1 (bif_t hsame (bif_t (by omega) ⟨by omega, by omega, by omega, by omega, bif_t hsame ⟨by omega, key⟩⟩))
              · have hs9 : bc ≠ 16 := by omega
                have hst := j_len_step (sc := sc) (β := β) (lim := lim) (a := a) (by omega) (lm := lm) (LM := LM) (p := p1 + 2) (k := k) (F := F) (S := S) (lt := lt) (bc := 16) (rn := nm β p1 (Int.toNat 2) + 3) (bm := 16) (tm := 3 + nm β p1 (Int.toNat 2)) (m := 16) (n := lt) (many := nm β p1 (Int.toNat 2) + 3 - 0) (L := L) (by omega) (by rw [if_pos (by omega), if_pos rfl]) (by omega) h8 (by omega) (by omega) (by omega) (by omega) h5 h6 h7 (fun q1 q2 q3 q4 q5 => ih (p1 + 2) (k + 1) _ _ _ _ _ _ _ _ (by omega) ⟨by omega, by omega, by omega, ⟨tkn h8 (by omega), q2⟩, q3, q4, q5, h8, Or.inr ⟨by omega, rfl, by omega, by omega, by omega⟩⟩)
                obtain ⟨p', r, L', t1, t2, t3, t4, t5, t6⟩ := hst
                refine ⟨p', r, L', by omega, t2, t3, t4, ?_, ?_⟩
                · intro ι v5 v6 v7 K H hR hC e5 e6 e7 e23 h
                  refine goC ι v5 v6 v7 _ hR hC e5 e6 fun ι1 a1 a2 => ?_
                  rw [hr] at a1
                  rw [if_pos hr, hs]
                  have e7' : up ι1 0 0 1 (p1 + 2) 4 0 7 = lt := by simp (disch := omega) only [up_s, up_k, up_j, up_i]; rw [a2 4 0 7 (by omega)]; exact e7
                  have hF2 : Fr fR ι (up ι1 0 0 1 (p1 + 2)) := a2.u (by omega)
                  refine bif_t (by omega) (bif_t (by omega) (s_number hw (by omega) (by omega) a1 ⟨by omega, bif_f (by omega) (bif_t (by omega) ⟨by omega, ?_⟩)⟩))
                  rw [e7']
                  exact t5 _ _ _ _ K H _ a1.to (hC.fr hF2 (fun j => by omega)) (by rw [hF2 4 0 5 (by omega)]; exact e5) (by rw [hF2 4 0 6 (by omega)]; exact e6) e7' (fun q hq => by rw [hF2 23 0 q (by omega)]; exact e23 q hq) fun ι' g1 g2 g3 => h ι' g1 g2 ((hF2.wide fun t i j q => by omega).trans g3)
                · intro ι st v8 v9 v10 v11 K H hst hst2 hR hC e71 h hh
                  refine e_M_readLengths_15 (bif_f (by omega) (bif_f (by omega) (i6 ι 17910 _ _ (by omega) (by omega) hR hC (fun _ ι1 a1 a2 => ?_) (fun e => by omega))))
                  rw [hs]
                  have hF2 : Fr gR ι (up ι1 13 0 16 (p1 + 2)) := a2.u (by omega)
                  have hFl : Fr (gL st a) ι (up ι1 13 0 16 (p1 + 2)) := hF2.wide fun t i j q => by omega
                  have key := t6 (up ι1 13 0 16 (p1 + 2)) st (bi (nm β p1 (Int.toNat 2))) (bi (3 + nm β p1 (Int.toNat 2))) K H hst hst2 a1.to (hC.fr hF2 (fun q _ => by omega) (by omega)) (fun q hq => by rw [hF2 71 0 _ (by omega)]; exact e71 q hq) (fun e ι' g1 g2 g3 => h e ι' g1 g2 (hFl.trans g3)) (fun e ι' g1 g2 g3 => hh e ι' g1 g2 (hFl.trans g3))
                  rw [show nm β p1 (Int.toNat 2) + 3 - 0 = 3 + nm β p1 (Int.toNat 2) by omega] at key
                  refine bif_t (by omega) ⟨by omega, ?_⟩
                  rw [show (16 : Int) - 14 = 2 by omega]
                  exact m_number hw (by omega) (by omega) a1 (bif_f hsame ⟨by omega, bif_f hsame key⟩)
            · -- the end
              refine ⟨lim, 1, L, by omega, by omega, Or.inr (Or.inr ⟨rfl, rfl⟩), fun e => by omega, ?_, ?_⟩
              · intro ι v5 v6 v7 K H hR hC e5 e6 e7 e23 h
                refine goC ι v5 v6 v7 _ hR hC e5 e6 fun ι1 a1 a2 => ?_
                rw [hr] at a1
                rw [if_pos hr, hs]
                have hF2 : Fr fR ι (up (up ι1 0 0 1 lim) 0 0 3 1) := (a2.u (by omega)).u (by omega)
                have hb : up (up ι1 0 0 1 lim) 0 0 3 1 0 0 3 ≠ 0 := by simp (disch := omega) only [up_s, up_k, up_j, up_i]; omega
                have fin : ∀ (n many x2 x3 x5 : Int) (v6 v7 : bm_V), bC sc 34 [br 4 0, bi n, bi many, bi (a : Int)] (up (up ι1 0 0 1 lim) 0 0 3 1) (bk0 (fun ι20 => bW sc 33 197 [br 4 0, bi (a : Int), bi x2, bi x3, bi k, bi x5, v6, v7] [] ι20 (bk0 K H)) (bq (bk0 K H))) := by
                  intro n many x2 x3 x5 v6 v7
                  refine s_come_err hb (by rw [hF2 4 0 5 (by omega)]; omega) (e_CR_readLengths_197 ⟨by omega, s_len_err hb (h _ (hR.fr hF2 (fun j => by omega) (by simp (disch := omega) only [up_s, up_k, up_j, up_i]) (by simp (disch := omega) only [up_s, up_k, up_j, up_i])) (fun e => by omega) (hF2.wide fun t i j q => by omega))⟩)
                by_cases hsame : bm = 16
                · exact bif_t (by omega) (bif_t (by omega) (s_number_end hw (by omega) a1 ⟨by omega, bif_t (by omega) (bif_f (by omega) (bif_t (by omega) ⟨by omega, by omega, by omega, bif_t (by omega) ⟨by omega, fin _ _ _ _ _ _ _⟩⟩))⟩))
                · exact bif_t (by omega) (bif_t (by omega) (s_number_end hw (by omega) a1 ⟨by omega, bif_f (by omega) (bif_t (by omega) ⟨by omega, fin _ _ _ _ _ _ _⟩)⟩))
              · intro ι st v8 v9 v10 v11 K H hst hst2 hR hC e71 h hh
                refine e_M_readLengths_15 (bif_f (by omega) (bif_f (by omega) (i6 ι 17910 _ _ (by omega) (by omega) hR hC (fun _ ι1 a1 a2 => ?_) (fun e => by omega))))
                rw [hs]
                have hF2 : Fr gR ι (up (up ι1 13 0 16 lim) 12 0 6 1) := (a2.u (by omega)).u (by omega)
                refine bif_t (by omega) ⟨by omega, ?_⟩
                rw [show (16 : Int) - 14 = 2 by omega]
                exact m_number_end hw (by omega) (by omega) a1 (hh (by omega) _ (hR.fr hF2 (fun j => by omega) (by simp (disch := omega) only [up_s, up_k, up_j, up_i])) (by simp (disch := omega) only [up_s, up_k, up_j, up_i]) (hF2.wide fun t i j q => by omega))
          · have hs : (s : Int) = 17 := by omega
            by_cases hp : p1 + 3 ≤ lim
            · have hv := nm3 (p := p1) w1
              by_cases hsame : bm = 17
              · have hs9 : bc = 17 ∧ rn = tm ∧ 3 ≤ tm ∧ tm ≤ F := by omega
                have hst := j_len_step (sc := sc) (β := β) (lim := lim) (a := a) (by omega) (lm := lm) (LM := LM) (p := p1 + 3) (k := k) (F := F) (S := S) (lt := lt) (bc := 17) (rn := 8 * (rn - 2) + (nm β p1 (Int.toNat 3) + 3)) (bm := 17) (tm := 8 * (tm - 2) + 3 + nm β p1 (Int.toNat 3)) (m := 17) (n := 0) (many := 8 * (rn - 2) + (nm β p1 (Int.toNat 3) + 3) - rn) (L := L) (by omega) (by rw [if_pos (by omega), if_neg (by omega)]) (by omega) h8 (by omega) (by omega) (by omega) (by omega) h5 h6 h7 (fun q1 q2 q3 q4 q5 => ih (p1 + 3) (k + 1) _ _ _ _ _ _ _ _ (by omega) ⟨by omega, by omega, by omega, ⟨by unfold tk; rw [if_neg (by omega)]; omega, q2⟩, q3, q4, q5, h8, Or.inr ⟨by omega, rfl, by omega, by omega, by omega⟩⟩)
                obtain ⟨p', r, L', t1, t2, t3, t4, t5, t6⟩ := hst
                refine ⟨p', r, L', by omega, t2, t3, t4, ?_, ?_⟩
                · intro ι v5 v6 v7 K H hR hC e5 e6 e7 e23 h
                  refine goC ι v5 v6 v7 _ hR hC e5 e6 fun ι1 a1 a2 => ?_
                  rw [hr] at a1
                  rw [if_pos hr, hs]
                  have e7' : up ι1 0 0 1 (p1 + 3) 4 0 7 = lt := by simp (disch := omega) only [up_s, up_k, up_j, up_i]; rw [a2 4 0 7 (by omega)]; exact e7
                  have hF2 : Fr fR ι (up ι1 0 0 1 (p1 + 3)) := a2.u (by omega)
                  refine bif_t (by omega) (bif_f (by omega) (s_number hw (by omega) (by omega) a1 ⟨by omega, bif_t (by omega) (bif_f (by omega) (bif_f (by omega) ⟨by omega, by omega, by omega, bif_f (by omega) ⟨by omega, ?_⟩⟩))⟩))
                  skip
                  exact t5 _ _ _ _ K H _ a1.to (hC.fr hF2 (fun j => by omega)) (by rw [hF2 4 0 5 (by omega)]; exact e5) (by rw [hF2 4 0 6 (by omega)]; exact e6) e7' (fun q hq => by rw [hF2 23 0 q (by omega)]; exact e23 q hq) fun ι' g1 g2 g3 => h ι' g1 g2 ((hF2.wide fun t i j q => by omega).trans g3)
                · intro ι st v8 v9 v10 v11 K H hst hst2 hR hC e71 h hh
                  refine e_M_readLengths_15 (bif_f (by omega) (bif_f (by omega) (i6 ι 17910 _ _ (by omega) (by omega) hR hC (fun _ ι1 a1 a2 => ?_) (fun e => by omega))))
                  rw [hs]
                  have hF2 : Fr gR ι (up ι1 13 0 16 (p1 + 3)) := a2.u (by omega)
                  have hFl : Fr (gL st a) ι (up ι1 13 0 16 (p1 + 3)) := hF2.wide fun t i j q => by omega
                  have key := t6 (up ι1 13 0 16 (p1 + 3)) st (bi (nm β p1 (Int.toNat 3))) (bi (8 * (tm - 2) + 3 + nm β p1 (Int.toNat 3))) K H hst hst2 a1.to (hC.fr hF2 (fun q _ => by omega) (by omega)) (fun q hq => by rw [hF2 71 0 _ (by omega)]; exact e71 q hq) (fun e ι' g1 g2 g3 => h e ι' g1 g2 (hFl.trans g3)) (fun e ι' g1 g2 g3 => hh e ι' g1 g2 (hFl.trans g3))
                  rw [show 8 * (rn - 2) + (nm β p1 (Int.toNat 3) + 3) - rn = 8 * (tm - 2) + 3 + nm β p1 (Int.toNat 3) - tm by omega] at key
                  refine bif_t (by omega) ⟨by omega, ?_⟩
                  rw [show (17 : Int) - 14 = 3 by omega]
                  exact m_number hw (by omega) (by omega) a1 (bif_t hsame (bif_f (by omega) ⟨by omega, by omega, by omega, by omega, bif_t hsame ⟨by omega, key⟩⟩))
              · have hs9 : bc ≠ 17 := by omega
                have hst := j_len_step (sc := sc) (β := β) (lim := lim) (a := a) (by omega) (lm := lm) (LM := LM) (p := p1 + 3) (k := k) (F := F) (S := S) (lt := lt) (bc := 17) (rn := nm β p1 (Int.toNat 3) + 3) (bm := 17) (tm := 3 + nm β p1 (Int.toNat 3)) (m := 17) (n := 0) (many := nm β p1 (Int.toNat 3) + 3 - 0) (L := L) (by omega) (by rw [if_pos (by omega), if_neg (by omega)]) (by omega) h8 (by omega) (by omega) (by omega) (by omega) h5 h6 h7 (fun q1 q2 q3 q4 q5 => ih (p1 + 3) (k + 1) _ _ _ _ _ _ _ _ (by omega) ⟨by omega, by omega, by omega, ⟨by unfold tk; rw [if_neg (by omega)]; omega, q2⟩, q3, q4, q5, h8, Or.inr ⟨by omega, rfl, by omega, by omega, by omega⟩⟩)
                obtain ⟨p', r, L', t1, t2, t3, t4, t5, t6⟩ := hst
                refine ⟨p', r, L', by omega, t2, t3, t4, ?_, ?_⟩
                · intro ι v5 v6 v7 K H hR hC e5 e6 e7 e23 h
                  refine goC ι v5 v6 v7 _ hR hC e5 e6 fun ι1 a1 a2 => ?_
                  rw [hr] at a1
                  rw [if_pos hr, hs]
                  have e7' : up ι1 0 0 1 (p1 + 3) 4 0 7 = lt := by simp (disch := omega) only [up_s, up_k, up_j, up_i]; rw [a2 4 0 7 (by omega)]; exact e7
                  have hF2 : Fr fR ι (up ι1 0 0 1 (p1 + 3)) := a2.u (by omega)
                  refine bif_t (by omega) (bif_f (by omega) (s_number hw (by omega) (by omega) a1 ⟨by omega, bif_f (by omega) (bif_f (by omega) ⟨by omega, ?_⟩)⟩))
                  skip
                  exact t5 _ _ _ _ K H _ a1.to (hC.fr hF2 (fun j => by omega)) (by rw [hF2 4 0 5 (by omega)]; exact e5) (by rw [hF2 4 0 6 (by omega)]; exact e6) e7' (fun q hq => by rw [hF2 23 0 q (by omega)]; exact e23 q hq) fun ι' g1 g2 g3 => h ι' g1 g2 ((hF2.wide fun t i j q => by omega).trans g3)
                · intro ι st v8 v9 v10 v11 K H hst hst2 hR hC e71 h hh
                  refine e_M_readLengths_15 (bif_f (by omega) (bif_f (by omega) (i6 ι 17910 _ _ (by omega) (by omega) hR hC (fun _ ι1 a1 a2 => ?_) (fun e => by omega))))
                  rw [hs]
                  have hF2 : Fr gR ι (up ι1 13 0 16 (p1 + 3)) := a2.u (by omega)
                  have hFl : Fr (gL st a) ι (up ι1 13 0 16 (p1 + 3)) := hF2.wide fun t i j q => by omega
                  have key := t6 (up ι1 13 0 16 (p1 + 3)) st (bi (nm β p1 (Int.toNat 3))) (bi (3 + nm β p1 (Int.toNat 3))) K H hst hst2 a1.to (hC.fr hF2 (fun q _ => by omega) (by omega)) (fun q hq => by rw [hF2 71 0 _ (by omega)]; exact e71 q hq) (fun e ι' g1 g2 g3 => h e ι' g1 g2 (hFl.trans g3)) (fun e ι' g1 g2 g3 => hh e ι' g1 g2 (hFl.trans g3))
                  rw [show nm β p1 (Int.toNat 3) + 3 - 0 = 3 + nm β p1 (Int.toNat 3) by omega] at key
                  refine bif_t (by omega) ⟨by omega, ?_⟩
                  rw [show (17 : Int) - 14 = 3 by omega]
                  exact m_number hw (by omega) (by omega) a1 (bif_f hsame ⟨by omega, bif_f hsame key⟩)
            · -- the end
              refine ⟨lim, 1, L, by omega, by omega, Or.inr (Or.inr ⟨rfl, rfl⟩), fun e => by omega, ?_, ?_⟩
              · intro ι v5 v6 v7 K H hR hC e5 e6 e7 e23 h
                refine goC ι v5 v6 v7 _ hR hC e5 e6 fun ι1 a1 a2 => ?_
                rw [hr] at a1
                rw [if_pos hr, hs]
                have hF2 : Fr fR ι (up (up ι1 0 0 1 lim) 0 0 3 1) := (a2.u (by omega)).u (by omega)
                have hb : up (up ι1 0 0 1 lim) 0 0 3 1 0 0 3 ≠ 0 := by simp (disch := omega) only [up_s, up_k, up_j, up_i]; omega
                have fin : ∀ (n many x2 x3 x5 : Int) (v6 v7 : bm_V), bC sc 34 [br 4 0, bi n, bi many, bi (a : Int)] (up (up ι1 0 0 1 lim) 0 0 3 1) (bk0 (fun ι20 => bW sc 33 197 [br 4 0, bi (a : Int), bi x2, bi x3, bi k, bi x5, v6, v7] [] ι20 (bk0 K H)) (bq (bk0 K H))) := by
                  intro n many x2 x3 x5 v6 v7
                  refine s_come_err hb (by rw [hF2 4 0 5 (by omega)]; omega) (e_CR_readLengths_197 ⟨by omega, s_len_err hb (h _ (hR.fr hF2 (fun j => by omega) (by simp (disch := omega) only [up_s, up_k, up_j, up_i]) (by simp (disch := omega) only [up_s, up_k, up_j, up_i])) (fun e => by omega) (hF2.wide fun t i j q => by omega))⟩)
                by_cases hsame : bm = 17
                · exact bif_t (by omega) (bif_f (by omega) (s_number_end hw (by omega) a1 ⟨by omega, bif_t (by omega) (bif_f (by omega) (bif_f (by omega) ⟨by omega, by omega, by omega, bif_f (by omega) ⟨by omega, fin _ _ _ _ _ _ _⟩⟩))⟩))
                · exact bif_t (by omega) (bif_f (by omega) (s_number_end hw (by omega) a1 ⟨by omega, bif_f (by omega) (bif_f (by omega) ⟨by omega, fin _ _ _ _ _ _ _⟩)⟩))
              · intro ι st v8 v9 v10 v11 K H hst hst2 hR hC e71 h hh
                refine e_M_readLengths_15 (bif_f (by omega) (bif_f (by omega) (i6 ι 17910 _ _ (by omega) (by omega) hR hC (fun _ ι1 a1 a2 => ?_) (fun e => by omega))))
                rw [hs]
                have hF2 : Fr gR ι (up (up ι1 13 0 16 lim) 12 0 6 1) := (a2.u (by omega)).u (by omega)
                refine bif_t (by omega) ⟨by omega, ?_⟩
                rw [show (17 : Int) - 14 = 3 by omega]
                exact m_number_end hw (by omega) (by omega) a1 (hh (by omega) _ (hR.fr hF2 (fun j => by omega) (by simp (disch := omega) only [up_s, up_k, up_j, up_i])) (by simp (disch := omega) only [up_s, up_k, up_j, up_i]) (hF2.wide fun t i j q => by omega))
      · -- no mark any more
        have hr1 : r1 = 1 ∧ p1 = lim := by omega
        refine ⟨p1, 1, L, by omega, i2, Or.inr (Or.inr ⟨rfl, hr1.2⟩), fun e => by omega, ?_, ?_⟩
        · intro ι v5 v6 v7 K H hR hC e5 e6 e7 e23 h
          refine goC ι v5 v6 v7 _ hR hC e5 e6 fun ι1 a1 a2 => ?_
          rw [hr1.1] at a1
          rw [if_neg hr]
          have hF2 : Fr fL ι (up ι1 4 0 7 (ι1 4 0 7)) := (a2.wide fun t i j q => by omega).u (by omega)
          have hb : up ι1 4 0 7 (ι1 4 0 7) 0 0 3 ≠ 0 := by simp (disch := omega) only [up_s, up_k, up_j, up_i]; rw [a1.2.2.1]; omega
          refine bif_f (by omega) (bif_t (by omega) (s_come_err hb (by simp (disch := omega) only [up_s, up_k, up_j, up_i]; rw [a2 4 0 5 (by omega)]; omega) (e_CR_readLengths_197 ⟨by omega, s_len_err hb (h _ (hR.fr hF2 (fun j => by omega) (by simp (disch := omega) only [up_s, up_k, up_j, up_i]; exact a1.1) (by simp (disch := omega) only [up_s, up_k, up_j, up_i]; exact a1.2.2.1)) (fun e => by omega) hF2)⟩)))
        · intro ι st v8 v9 v10 v11 K H hst hst2 hR hC e71 h hh
          refine e_M_readLengths_15 (bif_f (by omega) (bif_f (by omega) (i6 ι 17910 _ _ (by omega) (by omega) hR hC (fun e => absurd e hr) (fun e ι1 a1 a2 a3 => hh (by omega) ι1 a1 a2 (a3.wide fun t i j q => by omega)))))
end Lens3
