/-! the marks -/
def mo (k : Int) : Int := bt_204.getD k.toNat 0
theorem mo_c : ((List.range 18).all fun k => decide (0 ≤ mo (k : Int)) && decide (mo (k : Int) < 18) && (List.range 18).all fun j => decide (j = k) || decide (mo (j : Int) ≠ mo (k : Int))) = true := by decide +kernel
theorem mo_rg {k : Int} (h : 0 ≤ k ∧ k < 18) : 0 ≤ mo k ∧ mo k < 18 := by
  have h1 := List.all_eq_true.mp mo_c k.toNat (List.mem_range.mpr (by omega))
  rw [show ((k.toNat : Nat) : Int) = k by omega] at h1
  simp only [Bool.and_eq_true, decide_eq_true_eq] at h1
  exact h1.1
theorem mo_inj {k j : Int} (h : 0 ≤ k ∧ k < 18) (hj : 0 ≤ j ∧ j < 18) (hn : j ≠ k) : mo j ≠ mo k := by
  have h1 := List.all_eq_true.mp mo_c k.toNat (List.mem_range.mpr (by omega))
  rw [show ((k.toNat : Nat) : Int) = k by omega] at h1
  simp only [Bool.and_eq_true] at h1
  have h2 := List.all_eq_true.mp h1.2 j.toNat (List.mem_range.mpr (by omega))
  rw [show ((j.toNat : Nat) : Int) = j by omega] at h2
  simp only [Bool.or_eq_true, decide_eq_true_eq] at h2
  rcases h2 with h2 | h2
  · omega
  · exact h2
theorem mo_v : ((List.range 18).all fun k => decide (mo (k : Int) = if (4 : Int) ≤ k then (if (k : Int) = 4 then 0 else if (k : Int) = 5 then 5 else if (k : Int) = 6 then 17 else if (k : Int) = 7 then 6 else if (k : Int) = 8 then 16 else (k : Int) - 2) else (k : Int) + 1)) = true := by decide +kernel
section Marks
variable {sc : bm_Sc} {β : Int → Int} {lim : Int}
theorem X204 {k : Int} : bm_X sc 204 k = mo k := rfl
theorem m_markAt {ι : bm_S} {H : Nat × Int → bm_S → Prop} {K : Int → bm_S → Prop} {k : Int} (hk : 0 ≤ k ∧ k < 18) (h : K (mo k) ι) : bC sc 181 [bi k] ι (bk1 K H) := by
  have h1 := List.all_eq_true.mp mo_v k.toNat (List.mem_range.mpr (by omega))
  rw [show ((k.toNat : Nat) : Int) = k by omega] at h1
  have e := of_decide_eq_true h1
  rw [e] at h
  refine e_M_markAt_0 (bif_i (fun q => bif_i (fun q1 => ?_) (fun q1 => bif_i (fun q2 => ?_) (fun q2 => bif_i (fun q3 => ?_) (fun q3 => bif_i (fun q4 => ?_) (fun q4 => bif_i (fun q5 => ?_) (fun q5 => ⟨by omega, ?_⟩)))))) (fun q => ⟨by omega, ?_⟩))
  · rw [if_pos q, if_pos q1] at h; exact h
  · rw [if_pos q, if_neg q1, if_pos q2] at h; exact h
  · rw [if_pos q, if_neg q1, if_neg q2, if_pos q3] at h; exact h
  · rw [if_pos q, if_neg q1, if_neg q2, if_neg q3, if_pos q4] at h; exact h
  · rw [if_pos q, if_neg q1, if_neg q2, if_neg q3, if_neg q4, if_pos q5] at h; exact h
  · rw [if_pos q, if_neg q1, if_neg q2, if_neg q3, if_neg q4, if_neg q5] at h; exact h
  · rw [if_neg q] at h; exact h
theorem nm1 {p : Int} : nm β p (Int.toNat 1) = β p := by
  show nm β p 0 + β (p + ((0 : Nat) : Int)) * bm_p2 ((0 : Nat) : Int) = β p
  rw [show p + ((0 : Nat) : Int) = p by omega]
  show (0 : Int) + β p * 1 = β p
  omega
theorem s_bit {ι : bm_S} {H : Nat × Int → bm_S → Prop} {K : Int → bm_S → Prop} {p : Int} (hw : wfβ β lim) (hp : 0 ≤ p ∧ p < lim) (hR : cR ι β lim p 0) (h : ∀ ι', cR ι' β lim (p + 1) 0 → Fr fR ι ι' → K (β p) ι') : bC sc 4 [br 0 0, bi 1] ι (bk1 K H) := by
  refine s_number hw (by omega) (by omega) hR ?_
  rw [nm1]
  exact h _ hR.to ((Fr.refl _ _).u (by omega))
theorem s_bit_end {ι : bm_S} {H : Nat × Int → bm_S → Prop} {K : Int → bm_S → Prop} (hw : wfβ β lim) (hR : cR ι β lim lim 0) (h : ∀ ι', cR ι' β lim lim 1 → Fr fR ι ι' → K 0 ι') : bC sc 4 [br 0 0, bi 1] ι (bk1 K H) := by
  refine s_number_end hw ⟨hw.2.1, by omega, by omega⟩ hR ?_
  have hF : Fr fR ι (up (up ι 0 0 1 lim) 0 0 3 1) := ((Fr.refl _ _).u (by omega)).u (by omega)
  exact h _ (hR.fr hF (fun j => by omega) (by simp (disch := omega) only [up_s, up_k, up_j, up_i]) (by simp (disch := omega) only [up_s, up_k, up_j, up_i])) hF
theorem m_bit' {ι : bm_S} {H : Nat × Int → bm_S → Prop} {K : Int → bm_S → Prop} {p : Int} (hw : wfβ β lim) (hp : 0 ≤ p ∧ p < lim) (hR : mR ι β lim p) (h : ∀ ι', mR ι' β lim (p + 1) → Fr gR ι ι' → K (β p) ι') : bC sc 173 [br 13 0] ι (bk1 K H) := m_bit hw hp hR (h _ hR.to ((Fr.refl _ _).u (by omega)))
theorem m_bit_end' {ι : bm_S} {H : Nat × Int → bm_S → Prop} {K : Int → bm_S → Prop} (hw : wfβ β lim) (hR : mR ι β lim lim) (h : ∀ ι', mR ι' β lim lim → ι' 12 0 6 = 1 → Fr gR ι ι' → H (12, 0) ι') : bC sc 173 [br 13 0] ι (bk1 K H) := by
  have hF : Fr gR ι (up ι 12 0 6 1) := (Fr.refl _ _).u (by omega)
  exact m_bit_end hw hR (h _ (hR.fr hF (fun j => by omega) (by simp (disch := omega) only [up_s, up_k, up_j, up_i]; exact hR.1)) (by simp (disch := omega) only [up_s, up_k, up_j, up_i]) hF)
theorem j_markLength (hw : wfβ β lim) (p : Int) (h0 : 0 ≤ p) (h1 : p ≤ lim) : ∃ (p' r n : Int), p ≤ p' ∧ p' ≤ lim ∧ 0 ≤ n ∧ n ≤ 5 ∧ (r = 0 ∨ r = 1 ∧ p' = lim) ∧
    (∀ (ι : bm_S) (K : Int → bm_S → Prop) (H : Nat × Int → bm_S → Prop), cR ι β lim p 0 → (∀ (ι' : bm_S) (x : Int), cR ι' β lim p' r → 0 ≤ x → x ≤ 5 → (r = 0 → x = n) → Fr fR ι ι' → K x ι') → bC sc 31 [br 4 0] ι (bk1 K H)) ∧
    (∀ (ι : bm_S) (K : Int → bm_S → Prop) (H : Nat × Int → bm_S → Prop), mR ι β lim p → (r = 0 → ∀ ι', mR ι' β lim p' → Fr gR ι ι' → K n ι') → (r ≠ 0 → ∀ ι' : bm_S, mR ι' β lim p' → ι' 12 0 6 = 1 → Fr gR ι ι' → H (12, 0) ι') → bC sc 182 [br 13 0] ι (bk1 K H)) := by
  have w1 := hw.1
  by_cases c1 : p = lim
  · subst c1
    refine ⟨p, 1, 0, by omega, by omega, by omega, by omega, Or.inr ⟨rfl, rfl⟩, ?_, ?_⟩
    · intro ι K H hR h
      refine e_CR_markLength_0 (s_bit_end hw hR fun ι1 a1 a2 => bif_t rfl (s_number_bad (by rw [a1.2.2.1]; omega) (bif_t rfl ?_)))
      exact h _ _ a1 (by omega) (by omega) (fun e => by omega) a2
    · intro ι K H hR h hh
      exact e_M_markLength_0 (m_bit_end' hw hR fun ι1 a1 a2 a3 => hh (by omega) ι1 a1 a2 a3)
  · by_cases c2 : p + 1 = lim
    · refine ⟨lim, 1, 0, by omega, by omega, by omega, by omega, Or.inr ⟨rfl, rfl⟩, ?_, ?_⟩
      · intro ι K H hR h
        refine e_CR_markLength_0 (s_bit hw (by omega) hR fun ι1 a1 a2 => ?_)
        rw [c2] at a1
        refine bif_i (fun q => s_bit_end hw a1 fun ι2 b1 b2 => bif_t rfl ?_) (fun q => s_bit_end hw a1 fun ι2 b1 b2 => bif_t rfl ?_)
        · exact h _ _ b1 (by omega) (by omega) (fun e => by omega) (a2.trans b2)
        · exact h _ _ b1 (by omega) (by omega) (fun e => by omega) (a2.trans b2)
      · intro ι K H hR h hh
        refine e_M_markLength_0 (m_bit' hw (by omega) hR fun ι1 a1 a2 => ?_)
        rw [c2] at a1
        exact m_bit_end' hw a1 fun ι2 b1 b2 b3 => hh (by omega) ι2 b1 b2 (a2.trans b3)
    · by_cases d1 : β p = 0
      · by_cases d2 : β (p + 1) = 0
        · refine ⟨p + 1 + 1, 0, 0, by omega, by omega, by omega, by omega, Or.inl rfl, ?_, ?_⟩
          · intro ι K H hR h
            exact e_CR_markLength_0 (s_bit hw (by omega) hR fun ι1 a1 a2 => bif_t d1 (s_bit hw (by omega) a1 fun ι2 b1 b2 => bif_t d2 (h _ _ b1 (by omega) (by omega) (fun _ => rfl) (a2.trans b2))))
          · intro ι K H hR h hh
            exact e_M_markLength_0 (m_bit' hw (by omega) hR fun ι1 a1 a2 => m_bit' hw (by omega) a1 fun ι2 b1 b2 => bif_t d1 (bif_t d2 (h rfl _ b1 (a2.trans b2))))
        · refine ⟨p + 1 + 1, 0, 3, by omega, by omega, by omega, by omega, Or.inl rfl, ?_, ?_⟩
          · intro ι K H hR h
            exact e_CR_markLength_0 (s_bit hw (by omega) hR fun ι1 a1 a2 => bif_t d1 (s_bit hw (by omega) a1 fun ι2 b1 b2 => bif_f d2 (h _ _ b1 (by omega) (by omega) (fun _ => rfl) (a2.trans b2))))
          · intro ι K H hR h hh
            exact e_M_markLength_0 (m_bit' hw (by omega) hR fun ι1 a1 a2 => m_bit' hw (by omega) a1 fun ι2 b1 b2 => bif_t d1 (bif_f d2 (h rfl _ b1 (a2.trans b2))))
      · by_cases d2 : β (p + 1) = 0
        · refine ⟨p + 1 + 1, 0, 4, by omega, by omega, by omega, by omega, Or.inl rfl, ?_, ?_⟩
          · intro ι K H hR h
            exact e_CR_markLength_0 (s_bit hw (by omega) hR fun ι1 a1 a2 => bif_f d1 (s_bit hw (by omega) a1 fun ι2 b1 b2 => bif_t d2 (h _ _ b1 (by omega) (by omega) (fun _ => rfl) (a2.trans b2))))
          · intro ι K H hR h hh
            exact e_M_markLength_0 (m_bit' hw (by omega) hR fun ι1 a1 a2 => m_bit' hw (by omega) a1 fun ι2 b1 b2 => bif_f d1 (bif_t d2 (h rfl _ b1 (a2.trans b2))))
        · by_cases c3 : p + 1 + 1 = lim
          · refine ⟨lim, 1, 0, by omega, by omega, by omega, by omega, Or.inr ⟨rfl, rfl⟩, ?_, ?_⟩
            · intro ι K H hR h
              refine e_CR_markLength_0 (s_bit hw (by omega) hR fun ι1 a1 a2 => bif_f d1 (s_bit hw (by omega) a1 fun ι2 b1 b2 => bif_f d2 ?_))
              rw [c3] at b1
              exact s_bit_end hw b1 fun ι3 e1 e2 => bif_t rfl (h _ _ e1 (by omega) (by omega) (fun e => by omega) ((a2.trans b2).trans e2))
            · intro ι K H hR h hh
              refine e_M_markLength_0 (m_bit' hw (by omega) hR fun ι1 a1 a2 => m_bit' hw (by omega) a1 fun ι2 b1 b2 => bif_f d1 (bif_f d2 ?_))
              rw [c3] at b1
              exact m_bit_end' hw b1 fun ι3 e1 e2 e3 => hh (by omega) ι3 e1 e2 ((a2.trans b2).trans e3)
          · by_cases d3 : β (p + 1 + 1) = 0
            · refine ⟨p + 1 + 1 + 1, 0, 2, by omega, by omega, by omega, by omega, Or.inl rfl, ?_, ?_⟩
              · intro ι K H hR h
                exact e_CR_markLength_0 (s_bit hw (by omega) hR fun ι1 a1 a2 => bif_f d1 (s_bit hw (by omega) a1 fun ι2 b1 b2 => bif_f d2 (s_bit hw (by omega) b1 fun ι3 e1 e2 => bif_t d3 (h _ _ e1 (by omega) (by omega) (fun _ => rfl) ((a2.trans b2).trans e2)))))
              · intro ι K H hR h hh
                exact e_M_markLength_0 (m_bit' hw (by omega) hR fun ι1 a1 a2 => m_bit' hw (by omega) a1 fun ι2 b1 b2 => bif_f d1 (bif_f d2 (m_bit' hw (by omega) b1 fun ι3 e1 e2 => bif_t d3 (h rfl _ e1 ((a2.trans b2).trans e2)))))
            · by_cases c4 : p + 1 + 1 + 1 = lim
              · refine ⟨lim, 1, 0, by omega, by omega, by omega, by omega, Or.inr ⟨rfl, rfl⟩, ?_, ?_⟩
                · intro ι K H hR h
                  refine e_CR_markLength_0 (s_bit hw (by omega) hR fun ι1 a1 a2 => bif_f d1 (s_bit hw (by omega) a1 fun ι2 b1 b2 => bif_f d2 (s_bit hw (by omega) b1 fun ι3 e1 e2 => bif_f d3 ?_)))
                  rw [c4] at e1
                  exact s_bit_end hw e1 fun ι4 f1 f2 => bif_t rfl (h _ _ f1 (by omega) (by omega) (fun e => by omega) (((a2.trans b2).trans e2).trans f2))
                · intro ι K H hR h hh
                  refine e_M_markLength_0 (m_bit' hw (by omega) hR fun ι1 a1 a2 => m_bit' hw (by omega) a1 fun ι2 b1 b2 => bif_f d1 (bif_f d2 (m_bit' hw (by omega) b1 fun ι3 e1 e2 => bif_f d3 ?_)))
                  rw [c4] at e1
                  exact m_bit_end' hw e1 fun ι4 f1 f2 f3 => hh (by omega) ι4 f1 f2 (((a2.trans b2).trans e2).trans f3)
              · refine ⟨p + 1 + 1 + 1 + 1, 0, (if β (p + 1 + 1 + 1) = 0 then 1 else 5), by omega, by omega, by split <;> omega, by split <;> omega, Or.inl rfl, ?_, ?_⟩
                · intro ι K H hR h
                  refine e_CR_markLength_0 (s_bit hw (by omega) hR fun ι1 a1 a2 => bif_f d1 (s_bit hw (by omega) a1 fun ι2 b1 b2 => bif_f d2 (s_bit hw (by omega) b1 fun ι3 e1 e2 => bif_f d3 (s_bit hw (by omega) e1 fun ι4 f1 f2 => bif_i (fun q => ?_) (fun q => ?_)))))
                  · exact h _ _ f1 (by omega) (by omega) (fun _ => by rw [if_pos q]) (((a2.trans b2).trans e2).trans f2)
                  · exact h _ _ f1 (by omega) (by omega) (fun _ => by rw [if_neg q]) (((a2.trans b2).trans e2).trans f2)
                · intro ι K H hR h hh
                  refine e_M_markLength_0 (m_bit' hw (by omega) hR fun ι1 a1 a2 => m_bit' hw (by omega) a1 fun ι2 b1 b2 => bif_f d1 (bif_f d2 (m_bit' hw (by omega) b1 fun ι3 e1 e2 => bif_f d3 (m_bit' hw (by omega) e1 fun ι4 f1 f2 => ?_))))
                  have := h rfl ι4 f1 (((a2.trans b2).trans e2).trans f2)
                  refine bif_i (fun q => ?_) (fun q => ?_)
                  · rw [if_pos q] at this; exact this
                  · rw [if_neg q] at this; exact this
end Marks
