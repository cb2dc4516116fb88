/-! a part that is passed over -/
section Part3
variable {sc : bm_Sc} {β : Int → Int} {lim : Int}
variable {s pc wn tl cm has : Int} {f rg PA g c : Int → Int} {W : bm_S}
/-- a part that is passed over -/
theorem j_overPart (hw : wfβ β lim) (hs : 0 ≤ s ∧ s ≤ 3000) (hpc : 0 ≤ pc ∧ pc ≤ 50000) (hT : TV tl cm has W) (hf : ∀ k, 0 ≤ k → k < s → -128 ≤ f k ∧ f k < 128) (hrg : ∀ i, 0 ≤ i → i < 4 → 1 ≤ rg i ∧ rg i ≤ 4096) (p : Int) (hp0 : 0 ≤ p) (hp1 : p ≤ lim) :
    ∃ (p' r : Int) (PA' : Int → Int), RV lim p p' r 0 s f rg pc (pc + 1) tl cm has W ∧
    (∀ (ι : bm_S) (K : bm_S → Prop) (H : Nat × Int → bm_S → Prop), cR ι β lim p 0 → SC ι lim s f rg PA pc wn g c → ι 8 0 15 = 0 → TD ι tl cm has W → (∀ ι' : bm_S, RC β lim ι ι' p' r 0 s f rg PA' (pc + 1) tl cm has W wn g c → K ι') → bC sc 76 [br 8 0, bi 0] ι (bk0 K H)) ∧
    (∀ (ι : bm_S) (K : bm_S → Prop) (H : Nat × Int → bm_S → Prop), mR ι β lim p → SM ι s f rg PA pc wn g c → TDm ι has W → (r = 0 → ∀ ι' : bm_S, RM β lim ι ι' p' s f rg PA' (pc + 1) has W wn g c → K ι') → (r ≠ 0 → ∀ ι' : bm_S, RE β lim ι ι' p' r rg PA' (pc + 1) has W → H (12, 0) ι') → bC sc 220 [br 13 0, bi 0] ι (bk0 K H)) := by
  obtain ⟨p', r, PA', i1, i2, i3, i4, i5⟩ := j_over (sc := sc) (pc := pc + 1) (PA := np PA (pc + 1) 1 0) hw (by omega) (fun h => np_1 h) p hp0 hp1
  refine ⟨p', r, PA', ⟨⟨i1, i2⟩, i3, Or.inl rfl, fun _ => ⟨by omega, by omega, hf⟩, hrg, by omega, hT⟩, ?_, ?_⟩
  · intro ι K H hR hS h15 hD h
    refine e_O_passOver_0 (bif_t rfl (s_addPart (pc := pc) (PA := PA) (by omega) hR.2.2.1 hS.2.2.2.2.1 hS.2.2.2.1 (fun ι1 a1 a2 F1 => ?_)))
    refine i4 ι1 K H _ (hR.fr F1 (fun j => by omega) (by rw [F1 0 0 1 (by omega)]; exact hR.1) (by rw [F1 0 0 3 (by omega)]; exact hR.2.2.1)) a1 a2 (fun ι2 x1 P2 F2 => h ι2 ?_)
    have g51 : ∀ i, 0 ≤ i → i < 4 → ι2 51 0 i = rg i := fun k x y => by rw [F2 51 0 k (by omega), F1 51 0 k (by omega)]; exact hS.2.2.1 k x y
    have e3 : ι2 8 0 3 = pc + 1 := by rw [F2 8 0 3 (by omega)]; exact a1
    have e1 : ι2 2 1 1 = s := by rw [F2 2 1 1 (by omega), F1 2 1 1 (by omega)]; exact hS.1
    exact ⟨x1, fun e => ⟨⟨e1, fun k x y => by rw [F2 20 1 k (by omega), F1 20 1 k (by omega)]; exact hS.2.1 k x y, g51, P2, e3, by rw [F2 8 0 13 (by omega), F1 8 0 13 (by omega)]; exact hS.2.2.2.2.2.1, fun k x y => by rw [F2 64 0 k (by omega), F1 64 0 k (by omega)]; exact hS.2.2.2.2.2.2.1 k x y, fun k x y => by rw [F2 65 0 k (by omega), F1 65 0 k (by omega)]; exact hS.2.2.2.2.2.2.2.1 k x y, by rw [F2 2 0 1 (by omega), F1 2 0 1 (by omega)]; exact hS.2.2.2.2.2.2.2.2⟩, by rw [F2 8 0 15 (by omega), F1 8 0 15 (by omega)]; exact h15⟩, ⟨by omega, g51, P2⟩, e3, (hD.fr hT F1 (fun i j => by omega)).fr hT F2 (fun i j => by omega), (F1.wide fun t i j q => op_Np t i j (by omega)).trans (F2.wide op_Ov)⟩
  · intro ι K H hR hS hD h hh
    refine e_M_passOver_0 (bif_t rfl (e_M_passOver_9 (m_newPart (pc := pc) (PA := PA) (by omega) hS.2.2.2.2.1 hS.2.2.2.1 (fun ι1 a1 a2 F1 => ?_))))
    refine i5 ι1 _ _ _ _ _ (hR.fr F1 (fun j => by omega) (by rw [F1 13 0 16 (by omega)]; exact hR.1)) a1 a2 (fun e ι2 x1 P2 F2 => h e ι2 ?_) (fun e ι2 x1 x2 P2 F2 => hh e ι2 ?_)
    · exact ⟨x1, ⟨by rw [F2 13 0 6 (by omega), F1 13 0 6 (by omega)]; exact hS.1, fun k x y => by rw [F2 67 0 k (by omega), F1 67 0 k (by omega)]; exact hS.2.1 k x y, fun k x y => by rw [F2 77 0 (3 - k) (by omega), F1 77 0 (3 - k) (by omega)]; exact hS.2.2.1 k x y, P2, by rw [F2 13 0 19 (by omega)]; exact a1, by rw [F2 13 0 42 (by omega), F1 13 0 42 (by omega)]; exact hS.2.2.2.2.2.1, fun k x y => by rw [F2 68 0 k (by omega), F1 68 0 k (by omega)]; exact hS.2.2.2.2.2.2.1 k x y, fun k x y => by rw [F2 69 0 k (by omega), F1 69 0 k (by omega)]; exact hS.2.2.2.2.2.2.2 k x y⟩, (hD.fr F1 (fun j => by omega)).fr F2 (fun j => by omega), (F1.wide gp_Np).trans (F2.wide gp_Ov)⟩
    · exact ⟨x1, x2, ⟨fun k x y => by rw [F2 77 0 (3 - k) (by omega), F1 77 0 (3 - k) (by omega)]; exact hS.2.2.1 k x y, P2⟩, by rw [F2 13 0 19 (by omega)]; exact a1, (hD.fr F1 (fun j => by omega)).fr F2 (fun j => by omega), (F1.wide gp_Np).trans (F2.wide gp_Ov)⟩
end Part3
