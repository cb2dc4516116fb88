/-! a raw part -/
section Part2
variable {sc : bm_Sc} {β : Int → Int} {lim : Int}
variable {s pc wn tl cm has : Int} {f rg PA g c : Int → Int} {W : bm_S}
/-- a raw part, from its place among the parts on -/
theorem j_rawPart (hw : wfβ β lim) (hs : 0 ≤ s) {n : Int} (hn : 1 ≤ n ∧ s + n ≤ 3000) (hpc : 0 ≤ pc ∧ pc ≤ 50000) (hT : TV tl cm has W) (hf : ∀ k, 0 ≤ k → k < s → -128 ≤ f k ∧ f k < 128) (hrg : ∀ i, 0 ≤ i → i < 4 → 1 ≤ rg i ∧ rg i ≤ 4096) (p : Int) (hp0 : 0 ≤ p) (hp1 : p ≤ lim) :
    ∃ (p' r : Int) (f' PA' : Int → Int), RV lim p p' r 0 (s + n) f' rg pc (pc + 1) tl cm has W ∧
    (∀ (ι : bm_S) (K : bm_S → Prop) (H : Nat × Int → bm_S → Prop), cR ι β lim p 0 → SC ι lim s f rg PA pc wn g c → TD ι tl cm has W → (∀ ι' : bm_S, RC β lim ι ι' p' r 0 (s + n) f' rg PA' (pc + 1) tl cm has W wn g c → K ι') → bC sc 77 [br 8 0, bi 2, bi n] (up ι 8 0 15 0) (bk0 (fun ι8 => bC sc 6 [br 0 0] ι8 (bk0 (fun ι9 => bC sc 8 [br 0 0, br 2 1, bi n] ι9 (bk0 K H)) H)) H)) ∧
    (∀ (ι : bm_S) (Q : bm_O → bm_S → Prop) (v1 v3 : bm_V), mR ι β lim p → SM ι s f rg PA pc wn g c → TDm ι has W → (r = 0 → ∀ ι' : bm_S, RM β lim ι ι' p' (s + n) f' rg PA' (pc + 1) has W wn g c → Q (.inl none) ι') → (r ≠ 0 → ∀ ι' : bm_S, RE β lim ι ι' p' r rg PA' (pc + 1) has W → bq Q (12, 0) ι') → bC sc 187 [br 13 0, bi 2, bi n] ι (bk0 (fun ι4 => bC sc 175 [br 13 0] ι4 (bk0 (fun ι5 => bW sc 223 70 [br 13 0, v1, bi n, v3, bi 0] [] ι5 Q) (bq Q))) (bq Q))) := by
  obtain ⟨p', r, f', i1, i2, i3, i4, i5, i6⟩ := j_raw (sc := sc) hw hs hn hf p hp0 hp1
  refine ⟨p', r, f', np PA (pc + 1) 2 n, ⟨⟨i1, i2⟩, i3, Or.inl rfl, fun _ => ⟨by omega, by omega, i4⟩, hrg, by omega, hT⟩, ?_, ?_⟩
  · intro ι K H hR hS hD h
    have F0 : Fr (fun t i j => t = 8 ∧ j = 15) ι (up ι 8 0 15 0) := (Fr.refl _ _).u (by omega)
    have S0 := hS.fr F0 (fun j => by omega)
    refine s_addPart (pc := pc) (PA := PA) (by omega) (by rw [F0 0 0 3 (by omega)]; exact hR.2.2.1) S0.2.2.2.2.1 S0.2.2.2.1 (fun ι1 a1 a2 F1 => ?_)
    have F2 : Fr fNp ι ι1 := (F0.wide fun t i j q => by omega).trans (F1.wide fun t i j q => by omega)
    refine i5 ι1 _ _ (hR.fr F2 (fun j => by omega) (by rw [F2 0 0 1 (by omega)]; exact hR.1) (by rw [F2 0 0 3 (by omega)]; exact hR.2.2.1)) (by rw [F2 2 0 1 (by omega)]; exact hS.2.2.2.2.2.2.2.2) (by rw [F2 2 1 1 (by omega)]; exact hS.1) (fun k x y => by rw [F2 20 1 k (by omega)]; exact hS.2.1 k x y) (fun ι3 x1 x2 x3 F3 => ?_)
    have g51 : ∀ i, 0 ≤ i → i < 4 → ι3 51 0 i = rg i := fun k x y => by rw [F3 51 0 k (by omega), F2 51 0 k (by omega)]; exact hS.2.2.1 k x y
    have P3 : PaC ι3 (np PA (pc + 1) 2 n) := a2.fr F3 (fun j => by omega)
    have e3 : ι3 8 0 3 = pc + 1 := by rw [F3 8 0 3 (by omega)]; exact a1
    refine h ι3 ⟨x1, fun e => ⟨⟨(x2 e).1, (x2 e).2, g51, P3, e3, by rw [F3 8 0 13 (by omega), F2 8 0 13 (by omega)]; exact hS.2.2.2.2.2.1, fun k x y => by rw [F3 64 0 k (by omega), F2 64 0 k (by omega)]; exact hS.2.2.2.2.2.2.1 k x y, fun k x y => by rw [F3 65 0 k (by omega), F2 65 0 k (by omega)]; exact hS.2.2.2.2.2.2.2.1 k x y, by rw [F3 2 0 1 (by omega), F2 2 0 1 (by omega)]; exact hS.2.2.2.2.2.2.2.2⟩, ?_⟩, ⟨x3, g51, P3⟩, e3, (hD.fr hT F2 (fun i j => by omega)).fr hT F3 (fun i j => by omega), (F2.wide op_Np).trans (F3.wide op_Rw)⟩
    rw [F3 8 0 15 (by omega), F1 8 0 15 (by omega)]
    simp (disch := omega) only [up_s, up_k, up_j, up_i]
  · intro ι Q v1 v3 hR hS hD h hh
    refine m_newPart (pc := pc) (PA := PA) (by omega) hS.2.2.2.2.1 hS.2.2.2.1 (fun ι1 a1 a2 F1 => ?_)
    refine i6 ι1 Q v1 v3 (hR.fr F1 (fun j => by omega) (by rw [F1 13 0 16 (by omega)]; exact hR.1)) (by rw [F1 13 0 6 (by omega)]; exact hS.1) (fun k x y => by rw [F1 67 0 k (by omega)]; exact hS.2.1 k x y) (fun e ι2 x1 x2 x3 F2 => h e ι2 ?_) (fun e ι2 x1 x2 F2 => hh e ι2 ?_)
    · exact ⟨x1, ⟨x2, x3, fun k x y => by rw [F2 77 0 (3 - k) (by omega), F1 77 0 (3 - k) (by omega)]; exact hS.2.2.1 k x y, a2.fr F2 (fun j => by omega), by rw [F2 13 0 19 (by omega)]; exact a1, by rw [F2 13 0 42 (by omega), F1 13 0 42 (by omega)]; exact hS.2.2.2.2.2.1, fun k x y => by rw [F2 68 0 k (by omega), F1 68 0 k (by omega)]; exact hS.2.2.2.2.2.2.1 k x y, fun k x y => by rw [F2 69 0 k (by omega), F1 69 0 k (by omega)]; exact hS.2.2.2.2.2.2.2 k x y⟩, (hD.fr F1 (fun j => by omega)).fr F2 (fun j => by omega), (F1.wide gp_Np).trans (F2.wide gp_Rw)⟩
    · exact ⟨x1, x2, ⟨fun k x y => by rw [F2 77 0 (3 - k) (by omega), F1 77 0 (3 - k) (by omega)]; exact hS.2.2.1 k x y, a2.fr F2 (fun j => by omega)⟩, by rw [F2 13 0 19 (by omega)]; exact a1, (hD.fr F1 (fun j => by omega)).fr F2 (fun j => by omega), (F1.wide gp_Np).trans (F2.wide gp_Rw)⟩
end Part2
