/-! the form of distances, and the modes -/
section Form
variable {sc : bm_Sc} {β : Int → Int} {lim : Int}
theorem j_number (hw : wfβ β lim) (n : Int) (hn : 0 ≤ n ∧ n ≤ 24) (p : Int) (hp0 : 0 ≤ p) (hp1 : p ≤ lim) :
    ∃ (p' r v : Int), p ≤ p' ∧ p' ≤ lim ∧ (r = 0 ∨ r = 1) ∧ 0 ≤ v ∧ v < bm_p2 n ∧ (r ≠ 0 → v = 0) ∧
    (∀ (ι : bm_S) (K : Int → bm_S → Prop) (H : Nat × Int → bm_S → Prop), cR ι β lim p 0 → (∀ ι' : bm_S, cR ι' β lim p' r → Fr fR ι ι' → K v ι') → bC sc 4 [br 0 0, bi n] ι (bk1 K H)) ∧
    (∀ (ι : bm_S) (K : Int → bm_S → Prop) (H : Nat × Int → bm_S → Prop), mR ι β lim p → (r = 0 → ∀ ι' : bm_S, mR ι' β lim p' → Fr gR ι ι' → K v ι') → (r ≠ 0 → ∀ ι' : bm_S, mR ι' β lim p' → ι' 12 0 6 = r → Fr gR ι ι' → H (12, 0) ι') → bC sc 174 [br 13 0, bi n] ι (bk1 K H)) := by
  by_cases c : p + n ≤ lim
  · have hv := nm_rg (p := p) hw.1 n.toNat
    rw [show ((n.toNat : Nat) : Int) = n by omega] at hv
    refine ⟨p + n, 0, nm β p n.toNat, by omega, c, Or.inl rfl, hv.1, hv.2, fun e => absurd rfl e, ?_, ?_⟩
    · intro ι K H hR h
      have hF : Fr fR ι (up ι 0 0 1 (p + n)) := (Fr.refl _ _).u (by omega)
      exact s_number hw hn ⟨hp0, c⟩ hR (h _ (hR.fr hF (fun j => by omega) (by simp (disch := omega) only [up_s, up_k, up_j, up_i]) (by simp (disch := omega) only [up_s, up_k, up_j, up_i]; exact hR.2.2.1)) hF)
    · intro ι K H hR h _
      have hF : Fr gR ι (up ι 13 0 16 (p + n)) := (Fr.refl _ _).u (by omega)
      exact m_number hw hn ⟨hp0, c⟩ hR (h rfl _ (hR.fr hF (fun j => by omega) (by simp (disch := omega) only [up_s, up_k, up_j, up_i])) hF)
  · refine ⟨lim, 1, 0, hp1, by omega, Or.inr rfl, by omega, bm_p2pos _, fun _ => rfl, ?_, ?_⟩
    · intro ι K H hR h
      have hF : Fr fR ι (up (up ι 0 0 1 lim) 0 0 3 1) := ((Fr.refl _ _).u (by omega)).u (by omega)
      exact s_number_end hw ⟨hp0, hp1, by omega⟩ hR (h _ (hR.fr hF (fun j => by omega) (by simp (disch := omega) only [up_s, up_k, up_j, up_i]) (by simp (disch := omega) only [up_s, up_k, up_j, up_i])) hF)
    · intro ι K H hR _ hh
      have hF : Fr gR ι (up (up ι 13 0 16 lim) 12 0 6 1) := ((Fr.refl _ _).u (by omega)).u (by omega)
      exact m_number_end hw hn.2 ⟨hp0, hp1, by omega⟩ hR (hh (by omega) _ (hR.fr hF (fun j => by omega) (by simp (disch := omega) only [up_s, up_k, up_j, up_i])) (by simp (disch := omega) only [up_s, up_k, up_j, up_i]) hF)
/-- the modes once a rule is broken -/
theorem s_modes_err {K : bm_S → Prop} {H : Nat × Int → bm_S → Prop} : ∀ (m : Nat) (k : Int) (ι : bm_S), k = 12 - m → 0 ≤ k → ι 0 0 3 ≠ 0 → (∀ ι' : bm_S, Fr (fun t i j => t = 45 ∧ i = ι 8 0 6) ι ι' → K ι') → bW sc 82 66 [br 8 0, bi k] [] ι (bk0 K H)
  | 0, k, ι, hk, h0, hr, h => e_O_readForm_66 (bif_t (by omega) (h ι (Fr.refl _ _)))
  | m + 1, k, ι, hk, h0, hr, h => by
    refine e_O_readForm_66 (bif_f (by omega) ⟨rfl, by omega, bif_i (fun q => h ι (Fr.refl _ _)) (fun q => ⟨rfl, s_number_bad hr ⟨by omega, by omega, ?_⟩⟩)⟩)
    refine s_modes_err m (k + 1) _ (by omega) (by omega) (by simp (disch := omega) only [up_s, up_k, up_j, up_i]; exact hr) fun ι' a => ?_
    rw [up_k (by omega)] at a
    exact h ι' (((Fr.refl _ _).u (by omega)).trans a)
abbrev fMo (cm : Int) (t : Nat) (i j : Int) : Prop := fR t i j ∨ t = 45 ∧ i = cm
abbrev gMo (t : Nat) (i j : Int) : Prop := gR t i j ∨ t = 82
theorem j_modes (hw : wfβ β lim) {kd : Int} (hkd : 1 ≤ kd ∧ kd ≤ 12) (cm : Int) : ∀ (m : Nat) (k p : Int) (D : Int → Int), k = kd - m → 0 ≤ k → 0 ≤ p → p ≤ lim → (∀ j, 0 ≤ D j ∧ D j < 4) →
    ∃ (p' r : Int) (D' : Int → Int), p ≤ p' ∧ p' ≤ lim ∧ (r = 0 ∨ r = 1) ∧ (∀ j, 0 ≤ D' j ∧ D' j < 4) ∧
    (∀ (ι : bm_S) (K : bm_S → Prop) (H : Nat × Int → bm_S → Prop), cR ι β lim p 0 → ι 8 0 6 = cm → ι 43 cm 0 = kd → (∀ j, 0 ≤ j → j < k → ι 45 cm j = D j) → (∀ ι' : bm_S, cR ι' β lim p' r → (r = 0 → ∀ j, 0 ≤ j → j < kd → ι' 45 cm j = D' j) → Fr (fMo cm) ι ι' → K ι') → bW sc 82 66 [br 8 0, bi k] [] ι (bk0 K H)) ∧
    (∀ (ι : bm_S) (Q : bm_O → bm_S → Prop), mR ι β lim p → ι 78 0 0 = kd → (∀ j, 0 ≤ j → j < k → ι 82 0 j = D j) → (r = 0 → ∀ ι' : bm_S, mR ι' β lim p' → (∀ j, 0 ≤ j → j < kd → ι' 82 0 j = D' j) → Fr gMo ι ι' → bW sc 198 67 [br 13 0, bi kd] [] ι' Q) → (r ≠ 0 → ∀ ι' : bm_S, mR ι' β lim p' → ι' 12 0 6 = r → Fr gMo ι ι' → bq Q (12, 0) ι') → bW sc 198 67 [br 13 0, bi k] [] ι Q)
  | 0, k, p, D, hk, h0, hp0, hp1, hD => by
    have e : k = kd := by omega
    subst e
    refine ⟨p, 0, D, by omega, hp1, Or.inl rfl, hD, ?_, ?_⟩
    · intro ι K H hR h6 hk eD h
      refine e_O_readForm_66 (bif_i (fun q => h ι hR (fun _ => eD) (Fr.refl _ _)) (fun q => ⟨rfl, by omega, ?_⟩))
      rw [h6, hk]
      exact bif_t (by omega) (h ι hR (fun _ => eD) (Fr.refl _ _))
    · intro ι Q hR hk eD h _
      exact h rfl ι hR eD (Fr.refl _ _)
  | m + 1, k, p, D, hk, h0, hp0, hp1, hD => by
    obtain ⟨p1, r1, v, i1, i2, i3, i4, i5, i6, i7, i8⟩ := j_number (sc := sc) hw 2 (by omega) p hp0 hp1
    have hv : v < 4 := i5
    have hD1 : ∀ j, 0 ≤ fs D k v j ∧ fs D k v j < 4 := fun j => by
      unfold fs; split
      · exact ⟨i4, hv⟩
      · exact hD j
    by_cases hr : r1 = 0
    · obtain ⟨p2, r2, D', t1, t2, t3, t4, t5, t6⟩ := j_modes hw hkd cm m (k + 1) p1 (fs D k v) (by omega) (by omega) (by omega) i2 hD1
      refine ⟨p2, r2, D', by omega, t2, t3, t4, ?_, ?_⟩
      · intro ι K H hR h6 hk eD h
        refine e_O_readForm_66 (bif_f (by omega) ⟨rfl, by omega, bif_f (by rw [h6, hk]; omega) ⟨rfl, i7 ι _ _ hR fun ι1 a1 a2 => ⟨by omega, by omega, ?_⟩⟩⟩)
        rw [h6]
        rw [hr] at a1
        have hF : Fr (fMo cm) ι (up ι1 45 cm k v) := (a2.wide fun t i j q => by grind).u (by omega)
        refine t5 _ _ _ (hR.fr hF (fun j => by omega) (by simp (disch := omega) only [up_s, up_k, up_j, up_i]; exact a1.1) (by simp (disch := omega) only [up_s, up_k, up_j, up_i]; exact a1.2.2.1)) (by rw [hF 8 0 6 (by omega)]; exact h6) (by rw [hF 43 cm 0 (by omega)]; exact hk) (fun j a b => ?_) fun ι2 b1 b2 b3 => h ι2 b1 b2 (hF.trans b3)
        rw [up_at]; unfold fs; split
        · rfl
        · rw [a2 45 cm j (by omega)]; exact eD j a (by omega)
      · intro ι Q hR hk eD h hh
        refine e_M_readHeads_67 ⟨by omega, bif_f (by omega) (i8 ι _ _ hR (fun _ ι1 a1 a2 => ⟨by omega, by omega, ?_⟩) (fun e => absurd hr e))⟩
        have hF : Fr gMo ι (up ι1 82 0 k v) := (a2.wide fun t i j q => by grind).u (by omega)
        refine t6 _ _ (hR.fr hF (fun j => by omega) (by simp (disch := omega) only [up_s, up_k, up_j, up_i]; exact a1.1)) (by rw [hF 78 0 0 (by omega)]; exact hk) (fun j a b => ?_) (fun e ι2 b1 b2 b3 => h e ι2 b1 b2 (hF.trans b3)) (fun e ι2 b1 b2 b3 => hh e ι2 b1 b2 (hF.trans b3))
        rw [up_at]; unfold fs; split
        · rfl
        · rw [a2 82 0 j (by omega)]; exact eD j a (by omega)
    · refine ⟨p1, r1, D, i1, i2, i3, hD, ?_, ?_⟩
      · intro ι K H hR h6 hk eD h
        refine e_O_readForm_66 (bif_f (by omega) ⟨rfl, by omega, bif_f (by rw [h6, hk]; omega) ⟨rfl, i7 ι _ _ hR fun ι1 a1 a2 => ⟨by omega, by omega, ?_⟩⟩⟩)
        rw [h6]
        have hF : Fr (fMo cm) ι (up ι1 45 cm k v) := (a2.wide fun t i j q => by grind).u (by omega)
        have hR1 : cR (up ι1 45 cm k v) β lim p1 r1 := hR.fr hF (fun j => by omega) (by simp (disch := omega) only [up_s, up_k, up_j, up_i]; exact a1.1) (by simp (disch := omega) only [up_s, up_k, up_j, up_i]; exact a1.2.2.1)
        refine s_modes_err (12 - (k + 1)).toNat (k + 1) _ (by omega) (by omega) (by rw [hR1.2.2.1]; exact hr) fun ι2 b1 => ?_
        rw [show (up ι1 45 cm k v) 8 0 6 = cm by rw [hF 8 0 6 (by omega)]; exact h6] at b1
        exact h ι2 (hR1.fr b1 (fun j => by omega) (by rw [b1 0 0 1 (by omega)]; exact hR1.1) (by rw [b1 0 0 3 (by omega)]; exact hR1.2.2.1)) (fun e => absurd e hr) (hF.trans (b1.wide fun t i j q => by grind))
      · intro ι Q hR hk eD h hh
        exact e_M_readHeads_67 ⟨by omega, bif_f (by omega) (i8 ι _ _ hR (fun e => absurd e hr) (fun _ ι1 a1 a2 a3 => hh hr ι1 a1 a2 (a3.wide fun t i j q => by grind)))⟩
abbrev fFo (cm : Int) (t : Nat) (i j : Int) : Prop := fMo cm t i j ∨ t = 52 ∨ t = 7 ∧ i = cm ∧ (j = 8 ∨ j = 9)
abbrev gFo (t : Nat) (i j : Int) : Prop := gMo t i j ∨ t = 76 ∨ t = 13 ∧ (j = 22 ∨ j = 23)
theorem p2_3 {v : Int} (h : 0 ≤ v ∧ v < 4) : bm_p2 v = 1 ∨ bm_p2 v = 2 ∨ bm_p2 v = 4 ∨ bm_p2 v = 8 := by
  have h4 : v = 0 ∨ v = 1 ∨ v = 2 ∨ v = 3 := by omega
  rcases h4 with rfl | rfl | rfl | rfl
  · exact Or.inl rfl
  · exact Or.inr (Or.inl rfl)
  · exact Or.inr (Or.inr (Or.inl rfl))
  · exact Or.inr (Or.inr (Or.inr rfl))
theorem rg_form {v k : Int} (h : 0 ≤ v ∧ v < 4) (hk : 0 ≤ k ∧ k < 16) : 0 ≤ k * bm_p2 v ∧ k * bm_p2 v ≤ 120 := by
  rcases p2_3 h with e | e | e | e <;> rw [e] <;> omega
/-- comp up to the second number -/
theorem s_form1 {Q : bm_O → bm_S → Prop} {ι : bm_S} {pc cm p p1 r0 r1 v1 : Int} {PA : Int → Int} (hpc : 0 ≤ pc) (hR : cR ι β lim p r0) (h3 : ι 8 0 3 = pc) (h6 : ι 8 0 6 = cm) (hP : PaC ι PA)
    (hnum : ∀ (K : Int → bm_S → Prop) (H : Nat × Int → bm_S → Prop), (∀ ι' : bm_S, cR ι' β lim p1 r1 → Fr fR ι ι' → K v1 ι') → bC sc 4 [br 0 0, bi 2] ι (bk1 K H))
    (h : ∀ ι2 : bm_S, cR ι2 β lim p1 r1 → PaC ι2 (nt PA pc 7 v1) → ι2 8 0 6 = cm → ι2 8 0 3 = pc → ι2 7 cm 8 = v1 → Fr (fFo cm) ι ι2 →
      bC sc 4 [br 0 0, bi 4] ι2 (bk1 (fun r3 ι3 => ((0 : Int) = 0) ∧ ((0 ≤ ι3 7 (ι3 8 0 6) 8 ∧ ι3 7 (ι3 8 0 6) 8 < 32) ∧ bm_rg (r3 * bm_p2 (ι3 7 (ι3 8 0 6) 8))) ∧ ((0 : Int) = 0) ∧ bC sc 78 [br 8 0, bi 8, bi ((up ι3 7 (ι2 8 0 6) 9 (r3 * bm_p2 (ι3 7 (ι3 8 0 6) 8))) 7 (ι3 8 0 6) 9)] (up ι3 7 (ι2 8 0 6) 9 (r3 * bm_p2 (ι3 7 (ι3 8 0 6) 8))) (bk0 (fun ι4 => bW sc 82 66 [br 8 0, bi 0] [] ι4 Q) (bq Q))) (bq Q))) : bC sc 82 [br 8 0] ι Q := by
  refine e_O_readForm_0 ⟨rfl, hnum _ _ fun ι1 a1 a2 => ⟨rfl, ?_⟩⟩
  rw [h6, show ι1 8 0 6 = cm by rw [a2 8 0 6 (by omega)]; exact h6, show (up ι1 7 cm 8 v1) 7 cm 8 = v1 by simp (disch := omega) only [up_s, up_k, up_j, up_i]]
  have hF0 : Fr (fFo cm) ι (up ι1 7 cm 8 v1) := (a2.wide fun t i j q => by grind).u (by omega)
  refine s_note (pc := pc) (by omega) (by rw [hF0 8 0 3 (by omega)]; exact h3) hpc fun ι2 b1 b2 => ⟨rfl, ?_⟩
  have hF : Fr (fFo cm) ι ι2 := hF0.trans (b2.wide fun t i j q => by grind)
  refine h ι2 (hR.fr hF (fun j => by omega) (by rw [b2 0 0 1 (by omega)]; simp (disch := omega) only [up_s, up_k, up_j, up_i]; exact a1.1) (by rw [b2 0 0 3 (by omega)]; simp (disch := omega) only [up_s, up_k, up_j, up_i]; exact a1.2.2.1)) (fun j j0 j1 => ?_) (by rw [hF 8 0 6 (by omega)]; exact h6) (by rw [hF 8 0 3 (by omega)]; exact h3) (by rw [b2 7 cm 8 (by omega)]; simp (disch := omega) only [up_s, up_k, up_j, up_i]) hF
  rw [b1]
  exact nt_ext hpc (by omega) (fun j a b => by simp (disch := omega) only [up_s, up_k, up_j, up_i]; rw [a2 52 0 j (by omega)]; exact hP j a b) j j0 j1
theorem s_form2 {Q : bm_O → bm_S → Prop} {ι2 : bm_S} {pc cm p p1 r0 r1 v1 v2 : Int} {PA : Int → Int} (hpc : 0 ≤ pc) (hv1 : 0 ≤ v1 ∧ v1 < 4) (hv2 : 0 ≤ v2 ∧ v2 < 16) (hR : cR ι2 β lim p r0) (h3 : ι2 8 0 3 = pc) (h6 : ι2 8 0 6 = cm) (h8 : ι2 7 cm 8 = v1) (hP : PaC ι2 PA)
    (hnum : ∀ (K : Int → bm_S → Prop) (H : Nat × Int → bm_S → Prop), (∀ ι' : bm_S, cR ι' β lim p1 r1 → Fr fR ι2 ι' → K v2 ι') → bC sc 4 [br 0 0, bi 4] ι2 (bk1 K H))
    (h : ∀ ι4 : bm_S, cR ι4 β lim p1 r1 → PaC ι4 (nt PA pc 8 (v2 * bm_p2 v1)) → ι4 8 0 6 = cm → ι4 7 cm 8 = v1 → ι4 7 cm 9 = v2 * bm_p2 v1 → Fr (fFo cm) ι2 ι4 → bW sc 82 66 [br 8 0, bi 0] [] ι4 Q) :
      bC sc 4 [br 0 0, bi 4] ι2 (bk1 (fun r3 ι3 => ((0 : Int) = 0) ∧ ((0 ≤ ι3 7 (ι3 8 0 6) 8 ∧ ι3 7 (ι3 8 0 6) 8 < 32) ∧ bm_rg (r3 * bm_p2 (ι3 7 (ι3 8 0 6) 8))) ∧ ((0 : Int) = 0) ∧ bC sc 78 [br 8 0, bi 8, bi ((up ι3 7 (ι2 8 0 6) 9 (r3 * bm_p2 (ι3 7 (ι3 8 0 6) 8))) 7 (ι3 8 0 6) 9)] (up ι3 7 (ι2 8 0 6) 9 (r3 * bm_p2 (ι3 7 (ι3 8 0 6) 8))) (bk0 (fun ι4 => bW sc 82 66 [br 8 0, bi 0] [] ι4 Q) (bq Q))) (bq Q)) := by
  have hrg := rg_form hv1 hv2
  refine hnum _ _ fun ι3 a1 a2 => ?_
  rw [h6, show ι3 8 0 6 = cm by rw [a2 8 0 6 (by omega)]; exact h6, show ι3 7 cm 8 = v1 by rw [a2 7 cm 8 (by omega)]; exact h8]
  refine ⟨rfl, ⟨by omega, by omega⟩, rfl, ?_⟩
  rw [show (up ι3 7 cm 9 (v2 * bm_p2 v1)) 7 cm 9 = v2 * bm_p2 v1 by simp (disch := omega) only [up_s, up_k, up_j, up_i]]
  have hF0 : Fr (fFo cm) ι2 (up ι3 7 cm 9 (v2 * bm_p2 v1)) := (a2.wide fun t i j q => by grind).u (by omega)
  refine s_note (pc := pc) (by omega) (by rw [hF0 8 0 3 (by omega)]; exact h3) hpc fun ι4 b1 b2 => ?_
  have hF : Fr (fFo cm) ι2 ι4 := hF0.trans (b2.wide fun t i j q => by grind)
  refine h ι4 (hR.fr hF (fun j => by omega) (by rw [b2 0 0 1 (by omega)]; simp (disch := omega) only [up_s, up_k, up_j, up_i]; exact a1.1) (by rw [b2 0 0 3 (by omega)]; simp (disch := omega) only [up_s, up_k, up_j, up_i]; exact a1.2.2.1)) (fun j j0 j1 => ?_) (by rw [hF 8 0 6 (by omega)]; exact h6) (by rw [b2 7 cm 8 (by omega)]; simp (disch := omega) only [up_s, up_k, up_j, up_i]; rw [a2 7 cm 8 (by omega)]; exact h8) (by rw [b2 7 cm 9 (by omega)]; simp (disch := omega) only [up_s, up_k, up_j, up_i]) hF
  rw [b1]
  exact nt_ext hpc (by omega) (fun j a b => by simp (disch := omega) only [up_s, up_k, up_j, up_i]; rw [a2 52 0 j (by omega)]; exact hP j a b) j j0 j1
theorem nt_at8 {f : Int → Int} {pc a : Int} (h : 1 ≤ pc → pc ≤ 60 → f (12 * (pc - 1) + 8) = 0) : ∀ j, nt (nt f pc 7 a) pc 8 0 j = nt f pc 7 a j := by
  refine nt_same fun x y => ?_
  unfold nt
  rw [if_pos ⟨x, y⟩]
  unfold fs
  rw [if_neg (by omega)]
  exact h x y
theorem j_form (hw : wfβ β lim) {kd : Int} (hkd : 1 ≤ kd ∧ kd ≤ 12) (pc cm : Int) (hpc : 0 ≤ pc) (PA : Int → Int) (hz : 1 ≤ pc → pc ≤ 60 → PA (12 * (pc - 1) + 7) = 0 ∧ PA (12 * (pc - 1) + 8) = 0) (p : Int) (hp0 : 0 ≤ p) (hp1 : p ≤ lim) :
    ∃ (p' r pf dk : Int) (D PA' : Int → Int), p ≤ p' ∧ p' ≤ lim ∧ (r = 0 ∨ r = 1) ∧ (0 ≤ pf ∧ pf < 4) ∧ (0 ≤ dk ∧ dk < 16) ∧ (∀ j, 0 ≤ D j ∧ D j < 4) ∧ PA' = nt (nt PA pc 7 pf) pc 8 (dk * bm_p2 pf) ∧
    (∀ (ι : bm_S) (K : bm_S → Prop) (H : Nat × Int → bm_S → Prop), cR ι β lim p 0 → ι 8 0 3 = pc → ι 8 0 6 = cm → ι 43 cm 0 = kd → PaC ι PA → (∀ ι' : bm_S, cR ι' β lim p' r → PaC ι' PA' → (r = 0 → ι' 7 cm 8 = pf ∧ ι' 7 cm 9 = dk * bm_p2 pf ∧ ∀ j, 0 ≤ j → j < kd → ι' 45 cm j = D j) → Fr (fFo cm) ι ι' → K ι') → bC sc 82 [br 8 0] ι (bk0 K H)) ∧
    (∀ (ι : bm_S) (Q : bm_O → bm_S → Prop), mR ι β lim p → ι 13 0 19 = pc → ι 78 0 0 = kd → PaM ι PA → (r = 0 → ∀ ι' : bm_S, mR ι' β lim p' → PaM ι' PA' → ι' 13 0 22 = pf → ι' 13 0 23 = dk * bm_p2 pf → (∀ j, 0 ≤ j → j < kd → ι' 82 0 j = D j) → Fr gFo ι ι' → bW sc 198 67 [br 13 0, bi kd] [] ι' Q) → (r ≠ 0 → ∀ ι' : bm_S, mR ι' β lim p' → ι' 12 0 6 = r → PaM ι' PA' → Fr gFo ι ι' → bq Q (12, 0) ι') →
      bC sc 174 [br 13 0, bi 2] ι (bk1 (fun r1 ι1 => bC sc 185 [br 13 0, bi 7, bi r1] (up ι1 13 0 22 r1) (bk0 (fun ι2 => bC sc 174 [br 13 0, bi 4] ι2 (bk1 (fun r3 ι3 => ((0 ≤ ι3 13 0 22 ∧ ι3 13 0 22 < 32) ∧ bm_rg (r3 * bm_p2 (ι3 13 0 22))) ∧ bC sc 185 [br 13 0, bi 8, bi (r3 * bm_p2 (ι3 13 0 22))] (up ι3 13 0 23 (r3 * bm_p2 (ι3 13 0 22))) (bk0 (fun ι4 => bW sc 198 67 [br 13 0, bi 0] [] ι4 Q) (bq Q))) (bq Q))) (bq Q))) (bq Q))) := by
  obtain ⟨p1, r1, v1, i1, i2, i3, i4, i5, i6, i7, i8⟩ := j_number (sc := sc) hw 2 (by omega) p hp0 hp1
  have hv1 : 0 ≤ v1 ∧ v1 < 4 := ⟨i4, i5⟩
  by_cases hr : r1 = 0
  · obtain ⟨p2, r2, v2, k1, k2, k3, k4, k5, k6, k7, k8⟩ := j_number (sc := sc) hw 4 (by omega) p1 (by omega) i2
    have hv2 : 0 ≤ v2 ∧ v2 < 16 := ⟨k4, k5⟩
    have hrg := rg_form hv1 hv2
    -- the model behind the first number
    have goM : ∀ (ι : bm_S) (Q : bm_O → bm_S → Prop), mR ι β lim p → ι 13 0 19 = pc → PaM ι PA → (r2 = 0 → ∀ ι' : bm_S, mR ι' β lim p2 → PaM ι' (nt (nt PA pc 7 v1) pc 8 (v2 * bm_p2 v1)) → ι' 13 0 22 = v1 → ι' 13 0 23 = v2 * bm_p2 v1 → Fr gFo ι ι' → bW sc 198 67 [br 13 0, bi 0] [] ι' Q) → (r2 ≠ 0 → ∀ ι' : bm_S, mR ι' β lim p2 → ι' 12 0 6 = r2 → PaM ι' (nt PA pc 7 v1) → Fr gFo ι ι' → bq Q (12, 0) ι') →
        bC sc 174 [br 13 0, bi 2] ι (bk1 (fun r1 ι1 => bC sc 185 [br 13 0, bi 7, bi r1] (up ι1 13 0 22 r1) (bk0 (fun ι2 => bC sc 174 [br 13 0, bi 4] ι2 (bk1 (fun r3 ι3 => ((0 ≤ ι3 13 0 22 ∧ ι3 13 0 22 < 32) ∧ bm_rg (r3 * bm_p2 (ι3 13 0 22))) ∧ bC sc 185 [br 13 0, bi 8, bi (r3 * bm_p2 (ι3 13 0 22))] (up ι3 13 0 23 (r3 * bm_p2 (ι3 13 0 22))) (bk0 (fun ι4 => bW sc 198 67 [br 13 0, bi 0] [] ι4 Q) (bq Q))) (bq Q))) (bq Q))) (bq Q)) := by
      intro ι Q hR h3 hP h hh
      refine i8 ι _ _ hR (fun _ ι1 a1 a2 => ?_) (fun e => absurd hr e)
      have hF1 : Fr gFo ι (up ι1 13 0 22 v1) := (a2.wide fun t i j q => by grind).u (by omega)
      refine m_tell (pc := pc) (by omega) (by simp (disch := omega) only [up_s, up_k, up_j, up_i]; rw [a2 13 0 19 (by omega)]; exact h3) hpc fun ι2 b1 b2 => ?_
      have hF2 : Fr gFo ι ι2 := hF1.trans (b2.wide fun t i j q => by grind)
      have hR2 : mR ι2 β lim p1 := hR.fr hF2 (fun j => by omega) (by rw [b2 13 0 16 (by omega)]; simp (disch := omega) only [up_s, up_k, up_j, up_i]; exact a1.1)
      have hP2 : PaM ι2 (nt PA pc 7 v1) := fun j j0 j1 => by
        rw [b1]
        exact nt_ext hpc (by omega) (fun j a b => by simp (disch := omega) only [up_s, up_k, up_j, up_i]; rw [a2 76 0 j (by omega)]; exact hP j a b) j j0 j1
      refine k8 ι2 _ _ hR2 (fun e ι3 c1 c2 => ?_) (fun e ι3 c1 c2 c3 => hh e ι3 c1 c2 (hP2.fr c3 (fun j => by omega)) (hF2.trans (c3.wide fun t i j q => by grind)))
      have e22 : ι3 13 0 22 = v1 := by rw [c2 13 0 22 (by omega), b2 13 0 22 (by omega)]; simp (disch := omega) only [up_s, up_k, up_j, up_i]
      rw [e22]
      refine ⟨⟨by omega, by omega⟩, ?_⟩
      have hF3 : Fr gFo ι (up ι3 13 0 23 (v2 * bm_p2 v1)) := (hF2.trans (c2.wide fun t i j q => by grind)).u (by omega)
      refine m_tell (pc := pc) (by omega) (by simp (disch := omega) only [up_s, up_k, up_j, up_i]; rw [c2 13 0 19 (by omega), b2 13 0 19 (by omega)]; simp (disch := omega) only [up_s, up_k, up_j, up_i]; rw [a2 13 0 19 (by omega)]; exact h3) hpc fun ι4 d1 d2 => ?_
      have hF4 : Fr gFo ι ι4 := hF3.trans (d2.wide fun t i j q => by grind)
      refine h e ι4 (hR.fr hF4 (fun j => by omega) (by rw [d2 13 0 16 (by omega)]; simp (disch := omega) only [up_s, up_k, up_j, up_i]; exact c1.1)) (fun j j0 j1 => ?_) (by rw [d2 13 0 22 (by omega)]; simp (disch := omega) only [up_s, up_k, up_j, up_i]; exact e22) (by rw [d2 13 0 23 (by omega)]; simp (disch := omega) only [up_s, up_k, up_j, up_i]) hF4
      rw [d1]
      exact nt_ext hpc (by omega) (fun j a b => by simp (disch := omega) only [up_s, up_k, up_j, up_i]; rw [c2 76 0 j (by omega)]; exact hP2 j a b) j j0 j1
    by_cases hr2 : r2 = 0
    · obtain ⟨p3, r3, D, t1, t2, t3, t4, t5, t6⟩ := j_modes (sc := sc) hw hkd cm kd.toNat 0 p2 (fun _ => 0) (by omega) (by omega) (by omega) k2 (fun j => ⟨show (0 : Int) ≤ 0 by omega, show (0 : Int) < 4 by omega⟩)
      refine ⟨p3, r3, v1, v2, D, _, by omega, t2, t3, hv1, hv2, t4, rfl, ?_, ?_⟩
      · intro ι K H hR h3 h6 hk hP h
        refine s_form1 hpc hR h3 h6 hP (fun K H x => i7 ι K H hR x) fun ι2 a1 a2 a3 a4 a5 a6 => ?_
        rw [hr] at a1
        refine s_form2 hpc hv1 hv2 a1 a4 a3 a5 a2 (fun K H x => k7 ι2 K H a1 x) fun ι4 b1 b2 b3 b4 b5 b6 => ?_
        rw [hr2] at b1
        refine t5 ι4 _ _ b1 b3 (by rw [b6 43 cm 0 (by omega), a6 43 cm 0 (by omega)]; exact hk) (fun j a b => by omega) fun ι5 c1 c2 c3 => ?_
        exact h ι5 c1 (b2.fr c3 (fun j => by omega)) (fun e => ⟨by rw [c3 7 cm 8 (by omega)]; exact b4, by rw [c3 7 cm 9 (by omega)]; exact b5, c2 e⟩) ((a6.trans b6).trans (c3.wide fun t i j q => by grind))
      · intro ι Q hR h3 hk hP h hh
        refine goM ι Q hR h3 hP (fun _ ι4 a1 a2 a3 a4 a5 => ?_) (fun e => absurd hr2 e)
        refine t6 ι4 Q a1 (by rw [a5 78 0 0 (by omega)]; exact hk) (fun j a b => by omega) (fun e ι5 b1 b2 b3 => ?_) (fun e ι5 b1 b2 b3 => ?_)
        · exact h e ι5 b1 (a2.fr b3 (fun j => by omega)) (by rw [b3 13 0 22 (by omega)]; exact a3) (by rw [b3 13 0 23 (by omega)]; exact a4) b2 (a5.trans (b3.wide fun t i j q => by grind))
        · exact hh e ι5 b1 b2 (a2.fr b3 (fun j => by omega)) (a5.trans (b3.wide fun t i j q => by grind))
    · have e2 : v2 = 0 := k6 hr2
      refine ⟨p2, r2, v1, v2, fun _ => 0, _, by omega, k2, k3, hv1, hv2, fun j => ⟨show (0 : Int) ≤ 0 by omega, show (0 : Int) < 4 by omega⟩, rfl, ?_, ?_⟩
      · intro ι K H hR h3 h6 hk hP h
        refine s_form1 hpc hR h3 h6 hP (fun K H x => i7 ι K H hR x) fun ι2 a1 a2 a3 a4 a5 a6 => ?_
        rw [hr] at a1
        refine s_form2 hpc hv1 hv2 a1 a4 a3 a5 a2 (fun K H x => k7 ι2 K H a1 x) fun ι4 b1 b2 b3 b4 b5 b6 => ?_
        refine s_modes_err 12 0 ι4 (by omega) (by omega) (by rw [b1.2.2.1]; exact hr2) fun ι5 c1 => ?_
        rw [b3] at c1
        exact h ι5 (b1.fr c1 (fun j => by omega) (by rw [c1 0 0 1 (by omega)]; exact b1.1) (by rw [c1 0 0 3 (by omega)]; exact b1.2.2.1)) (b2.fr c1 (fun j => by omega)) (fun e => absurd e hr2) ((a6.trans b6).trans (c1.wide fun t i j q => by grind))
      · intro ι Q hR h3 hk hP h hh
        refine goM ι Q hR h3 hP (fun e => absurd e hr2) (fun _ ι4 a1 a2 a3 a4 => hh hr2 ι4 a1 a2 (fun j j0 j1 => ?_) a4)
        rw [e2, Int.zero_mul, nt_at8 fun x y => (hz x y).2]
        exact a3 j j0 j1
  · have e1 : v1 = 0 := i6 hr
    refine ⟨p1, r1, v1, 0, fun _ => 0, _, i1, i2, i3, hv1, by omega, fun j => ⟨show (0 : Int) ≤ 0 by omega, show (0 : Int) < 4 by omega⟩, rfl, ?_, ?_⟩
    · intro ι K H hR h3 h6 hk hP h
      refine s_form1 hpc hR h3 h6 hP (fun K H x => i7 ι K H hR x) fun ι2 a1 a2 a3 a4 a5 a6 => ?_
      have hne : ι2 0 0 3 ≠ 0 := by rw [a1.2.2.1]; exact hr
      refine s_form2 hpc hv1 (v2 := 0) (by omega) a1 a4 a3 a5 a2 (fun K H x => s_number_bad hne (x ι2 a1 (Fr.refl _ _))) fun ι4 b1 b2 b3 b4 b5 b6 => ?_
      refine s_modes_err 12 0 ι4 (by omega) (by omega) (by rw [b1.2.2.1]; exact hr) fun ι5 c1 => ?_
      rw [b3] at c1
      exact h ι5 (b1.fr c1 (fun j => by omega) (by rw [c1 0 0 1 (by omega)]; exact b1.1) (by rw [c1 0 0 3 (by omega)]; exact b1.2.2.1)) (b2.fr c1 (fun j => by omega)) (fun e => absurd e hr) ((a6.trans b6).trans (c1.wide fun t i j q => by grind))
    · intro ι Q hR h3 hk hP h hh
      refine i8 ι _ _ hR (fun e => absurd e hr) (fun _ ι1 a1 a2 a3 => hh hr ι1 a1 a2 (fun j j0 j1 => ?_) (a3.wide fun t i j q => by grind))
      rw [e1, Int.zero_mul, nt_at8 (fun x y => (hz x y).2), nt_same fun x y => (hz x y).1]
      rw [a3 76 0 j (by omega)]
      exact hP j j0 j1
/-- comp once a rule is broken -/
theorem s_form_err {ι : bm_S} {K : bm_S → Prop} {H : Nat × Int → bm_S → Prop} {pc cm p r : Int} {PA : Int → Int} (hpc : 0 ≤ pc) (hz : 1 ≤ pc → pc ≤ 60 → PA (12 * (pc - 1) + 7) = 0 ∧ PA (12 * (pc - 1) + 8) = 0) (hR : cR ι β lim p r) (hr : r ≠ 0) (h3 : ι 8 0 3 = pc) (h6 : ι 8 0 6 = cm) (hP : PaC ι PA) (h : ∀ ι' : bm_S, cR ι' β lim p r → PaC ι' PA → Fr (fFo cm) ι ι' → K ι') : bC sc 82 [br 8 0] ι (bk0 K H) := by
  have hne : ι 0 0 3 ≠ 0 := by rw [hR.2.2.1]; exact hr
  refine s_form1 hpc hR h3 h6 hP (v1 := 0) (fun K H x => s_number_bad hne (x ι hR (Fr.refl _ _))) fun ι2 a1 a2 a3 a4 a5 a6 => ?_
  have hne2 : ι2 0 0 3 ≠ 0 := by rw [a1.2.2.1]; exact hr
  refine s_form2 hpc (by omega) (v2 := 0) (by omega) a1 a4 a3 a5 a2 (fun K H x => s_number_bad hne2 (x ι2 a1 (Fr.refl _ _))) fun ι4 b1 b2 b3 b4 b5 b6 => ?_
  refine s_modes_err 12 0 ι4 (by omega) (by omega) (by rw [b1.2.2.1]; exact hr) fun ι5 c1 => ?_
  rw [b3] at c1
  refine h ι5 (b1.fr c1 (fun j => by omega) (by rw [c1 0 0 1 (by omega)]; exact b1.1) (by rw [c1 0 0 3 (by omega)]; exact b1.2.2.1)) (fun j j0 j1 => ?_) ((a6.trans b6).trans (c1.wide fun t i j q => by grind))
  rw [(b2.fr c1 (fun j => by omega)) j j0 j1, Int.zero_mul, nt_at8 (fun x y => (hz x y).2), nt_same fun x y => (hz x y).1]
end Form
