/-! the heads of a part, once a rule is broken -/
section Heads
variable {sc : bm_Sc}
theorem s_codes2_err {K : bm_S → Prop} {H : Nat × Int → bm_S → Prop} {ι : bm_S} (hr : ι 0 0 3 ≠ 0) (h : K ι) : ∀ (m : Nat) (k : Int) (v2 v3 : bm_V), k = 3 - m → 0 ≤ k → bW sc 86 2 [br 8 0, bi k, v2, v3] [] ι (bk0 K H)
  | 0, k, v2, v3, hk, h0 => e_O_readCodes_2 (bif_t (by omega) (s_fine (fun e => absurd e hr) (fun _ => bif_t rfl h)))
  | m + 1, k, v2, v3, hk, h0 => by
    have G : ∀ r : Int, bW sc 86 23 [br 8 0, bi k, bi r, bi 0] [] ι (bk0 K H) := fun r => e_O_readCodes_23 (bif_i (fun q => ⟨by omega, s_codes2_err hr h m (k + 1) _ _ (by omega) (by omega)⟩) (fun q => s_fine (fun e => absurd e hr) (fun _ => bif_t rfl ⟨by omega, s_codes2_err hr h m (k + 1) _ _ (by omega) (by omega)⟩)))
    exact e_O_readCodes_2 (bif_f (by omega) ⟨rfl, e_L_codesOf_0 (bif_i (fun q => ⟨by omega, G _⟩) (fun q => ⟨by omega, by omega, G _⟩))⟩)
theorem s_codes_err {K : bm_S → Prop} {H : Nat × Int → bm_S → Prop} {ι : bm_S} (hr : ι 0 0 3 ≠ 0) (h : K ι) : bC sc 86 [br 8 0] ι (bk0 K H) := e_O_readCodes_0 (s_codes2_err hr h 3 0 _ _ (by omega) (by omega))
end Heads
