/-! the heads of a part, once a rule is broken -/
section Heads
variable {sc : bm_Sc}
theorem s_codes2_err {K : bm_S → Prop} {H : Nat × Int → bm_S → Prop} {ι : bm_S} (hr : ι 0 0 3 ≠ 0) (h : K ι) : ∀ (m : Nat) (k : Int) (v2 v3 : bm_V), k = 3 - m → 0 ≤ k → bW sc 86 2 [br 8 0, bi k, v2, v3] [] ι (bk0 K H)
  | 0, k, v2, v3, hk, h0 => e_O_readCodes_2 (bif_t (by omega) (s_fine (fun e => absurd e hr) (fun _ => bif_t rfl h)))
  | m + 1, k, v2, v3, hk, h0 => by
    have G : ∀ r : Int, bW sc 86 23 [br 8 0, bi k, bi r, bi 0] [] ι (bk0 K H) := fun r => e_O_readCodes_23 (bif_i (fun q => ⟨by omega, s_codes2_err hr h m (k + 1) _ _ (by omega) (by omega)⟩) (fun q => s_fine (fun e => absurd e hr) (fun _ => bif_t rfl ⟨by omega, s_codes2_err hr h m (k + 1) _ _ (by omega) (by omega)⟩)))
    exact e_O_readCodes_2 (bif_f (by omega) ⟨rfl, e_L_codesOf_0 (bif_i (fun q => ⟨by omega, G _⟩) (fun q => ⟨by omega, by omega, G _⟩))⟩)
theorem s_codes_err {K : bm_S → Prop} {H : Nat × Int → bm_S → Prop} {ι : bm_S} (hr : ι 0 0 3 ≠ 0) (h : K ι) : bC sc 86 [br 8 0] ι (bk0 K H) := e_O_readCodes_0 (s_codes2_err hr h 3 0 _ _ (by omega) (by omega))
variable {β : Int → Int} {lim : Int}
abbrev fCoA (cm : Int) (t : Nat) (i j : Int) : Prop := fR t i j ∨ t = 23 ∨ t = 24 ∨ t = 25 ∨ t = 4 ∧ (j = 5 ∨ j = 6 ∨ j = 7) ∨ (i = 73 ∨ 36 * cm ≤ i ∧ i < 36 * cm + 36) ∧ (t = 21 ∨ t = 22 ∨ t = 3 ∧ j = 2)
/-- comp: a sort of codes after the other -/
theorem s_codes_in {Q : bm_O → bm_S → Prop} {ι : bm_S} {cm n q : Int} {v2 v3 : bm_V} (hq : q = 0 ∨ q = 1 ∨ q = 2) (h6 : ι 8 0 6 = cm) (hn : n ≤ 12) (e : (if q = 1 then ι 43 cm 1 else ι 44 cm (q / 2)) = n) (h : bW sc 86 23 [br 8 0, bi q, bi n, bi 0] [] ι Q) : bW sc 86 2 [br 8 0, bi q, v2, v3] [] ι Q := by
  refine e_O_readCodes_2 (bif_f (by omega) ⟨rfl, ?_⟩)
  rw [h6]
  refine e_L_codesOf_0 (bif_i (fun c => ⟨by omega, ?_⟩) (fun c => ⟨by omega, by omega, ?_⟩))
  · rw [if_pos c] at e
    show bW sc 86 23 [br 8 0, bi q, bi (min (ι 43 cm 1) 12), bi 0] [] ι Q
    rw [e, show min n 12 = n by omega]; exact h
  · rw [if_neg c] at e
    show bW sc 86 23 [br 8 0, bi q, bi (min (ι 44 cm (q / 2)) 12), bi 0] [] ι Q
    rw [e, show min n 12 = n by omega]; exact h
theorem s_codes_out {K : bm_S → Prop} {H : Nat × Int → bm_S → Prop} {ι : bm_S} {cm tl : Int} {v2 v3 : bm_V} (hf : ι 0 0 3 = 0) (h6 : ι 8 0 6 = cm) (h4 : ι 8 0 4 = tl) (hcm : cm < 2) (htl : tl < 2) (h : K (up (up (up ι 8 0 4 cm) 8 0 6 tl) 8 0 5 1)) : bW sc 86 2 [br 8 0, bi 3, v2, v3] [] ι (bk0 K H) := by
  refine e_O_readCodes_2 (bif_t (by omega) (s_fine (fun _ => bif_f (by omega) ⟨rfl, rfl, ⟨rfl, rfl, by omega⟩, ⟨rfl, rfl, by omega⟩, by omega, ?_⟩) (fun e => absurd hf e)))
  show K (up (up (up ι 8 0 4 (ι 8 0 6)) 8 0 6 (ι 8 0 4)) 8 0 5 1)
  rw [h6, h4]; exact h
/-- all codes of a part -/
def CoC (ι : bm_S) (cm q n : Int) (LO : Int → Int) (LL : Int → Int → Int) (a : Nat) : Prop := ∀ t, 0 ≤ t → t < n → CodeC ι (36 * cm + 3 * t + q) (LO t) (LL t) a
def CoM (ι : bm_S) (st w n : Int) (LO : Int → Int) (LL : Int → Int → Int) (a : Nat) : Prop := ∀ t, 0 ≤ t → t < n → CodeM ι (st + w * t) (LO t) (LL t) a
def CoO (n : Int) (LO : Int → Int) (LL : Int → Int → Int) (a : Nat) : Prop := ∀ t, 0 ≤ t → t < n → CodeOK (LO t) (LL t) a ∧ (0 ≤ LO t → ∀ s : Nat, s < a → LL t s = 0)
theorem CoC.fr {ι ι' : bm_S} {cm q n : Int} {LO : Int → Int} {LL : Int → Int → Int} {a : Nat} {P : Nat → Int → Int → Prop} (h : CoC ι cm q n LO LL a) (hF : Fr P ι ι') (hP : ∀ t j : Int, 0 ≤ t → t < n → ¬ P 3 (36 * cm + 3 * t + q) 2 ∧ ¬ P 21 (36 * cm + 3 * t + q) j ∧ ¬ P 22 (36 * cm + 3 * t + q) j) : CoC ι' cm q n LO LL a := fun t x y => (h t x y).fr hF (fun j => hP t j x y)
theorem CoM.fr {ι ι' : bm_S} {st w n : Int} {LO : Int → Int} {LL : Int → Int → Int} {a : Nat} {P : Nat → Int → Int → Prop} (h : CoM ι st w n LO LL a) (hF : Fr P ι ι') (ha : 0 < a) (hP : ∀ (t : Int) (s : Nat), 0 ≤ t → t < n → s < a → ¬ P 73 0 (st + w * t) ∧ ¬ P 71 0 (st + w * t + s) ∧ ¬ P 72 0 (st + w * t + s)) : CoM ι' st w n LO LL a := fun t x y => (h t x y).fr hF (fun s hs => hP t s x y hs) ha
end Heads
