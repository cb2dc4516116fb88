/-! the heads of a part, once a rule is broken -/
section Heads
variable {sc : bm_Sc}
theorem s_codes2_err {K : bm_S → Prop} {H : Nat × Int → bm_S → Prop} {ι : bm_S} (hr : ι 0 0 3 ≠ 0) (h : K ι) : ∀ (m : Nat) (k : Int) (v2 v3 : bm_V), k = 3 - m → 0 ≤ k → bW sc 86 2 [br 8 0, bi k, v2, v3] [] ι (bk0 K H)
  | 0, k, v2, v3, hk, h0 => e_O_readCodes_2 (bif_t (by omega) (s_fine (fun e => absurd e hr) (fun _ => bif_t rfl h)))
  | m + 1, k, v2, v3, hk, h0 => by
    have G : ∀ r : Int, bW sc 86 23 [br 8 0, bi k, bi r, bi 0] [] ι (bk0 K H) := fun r => e_O_readCodes_23 (bif_i (fun q => ⟨by omega, s_codes2_err hr h m (k + 1) _ _ (by omega) (by omega)⟩) (fun q => s_fine (fun e => absurd e hr) (fun _ => bif_t rfl ⟨by omega, s_codes2_err hr h m (k + 1) _ _ (by omega) (by omega)⟩)))
    exact e_O_readCodes_2 (bif_f (by omega) ⟨rfl, e_L_codesOf_0 (bif_i (fun q => ⟨by omega, G _⟩) (fun q => ⟨by omega, by omega, G _⟩))⟩)
theorem s_codes_err {K : bm_S → Prop} {H : Nat × Int → bm_S → Prop} {ι : bm_S} (hr : ι 0 0 3 ≠ 0) (h : K ι) : bC sc 86 [br 8 0] ι (bk0 K H) := e_O_readCodes_0 (s_codes2_err hr h 3 0 _ _ (by omega) (by omega))
variable {β : Int → Int} {lim : Int}
abbrev fCoA (cm : Int) (t : Nat) (i j : Int) : Prop := fR t i j ∨ t = 23 ∨ t = 24 ∨ t = 25 ∨ t = 4 ∧ (j = 5 ∨ j = 6 ∨ j = 7) ∨ (i = 73 ∨ 36 * cm ≤ i ∧ i < 36 * cm + 36) ∧ (t = 21 ∨ t = 22 ∨ t = 3 ∧ j = 2)
/-- comp: a sort of codes after the other -/
theorem s_codes_in {Q : bm_O → bm_S → Prop} {ι : bm_S} {cm n q : Int} {v2 v3 : bm_V} (hq : q = 0 ∨ q = 1 ∨ q = 2) (h6 : ι 8 0 6 = cm) (hn : n ≤ 12) (e : (if q = 1 then ι 43 cm 1 else ι 44 cm (q / 2)) = n) (h : bW sc 86 23 [br 8 0, bi q, bi n, bi 0] [] ι Q) : bW sc 86 2 [br 8 0, bi q, v2, v3] [] ι Q := by
  refine e_O_readCodes_2 (bif_f (by omega) ⟨rfl, ?_⟩)
  rw [h6]
  refine e_L_codesOf_0 (bif_i (fun c => ⟨by omega, ?_⟩) (fun c => ⟨by omega, by omega, ?_⟩))
  · rw [if_pos c] at e
    show bW sc 86 23 [br 8 0, bi q, bi (min (ι 43 cm 1) 12), bi 0] [] ι Q
    rw [e, show min n 12 = n by omega]; exact h
  · rw [if_neg c] at e
    show bW sc 86 23 [br 8 0, bi q, bi (min (ι 44 cm (q / 2)) 12), bi 0] [] ι Q
    rw [e, show min n 12 = n by omega]; exact h
end Heads
