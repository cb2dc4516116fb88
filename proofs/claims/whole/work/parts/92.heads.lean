/-! the heads of a part, once a rule is broken -/
section Heads
variable {sc : bm_Sc}
theorem s_codes2_err {K : bm_S → Prop} {H : Nat × Int → bm_S → Prop} {ι : bm_S} (hr : ι 0 0 3 ≠ 0) (h : K ι) : ∀ (m : Nat) (k : Int) (v2 v3 : bm_V), k = 3 - m → 0 ≤ k → bW sc 86 2 [br 8 0, bi k, v2, v3] [] ι (bk0 K H)
  | 0, k, v2, v3, hk, h0 => e_O_readCodes_2 (bif_t (by omega) (s_fine (fun e => absurd e hr) (fun _ => bif_t rfl h)))
  | m + 1, k, v2, v3, hk, h0 => by
    have G : ∀ r : Int, bW sc 86 23 [br 8 0, bi k, bi r, bi 0] [] ι (bk0 K H) := fun r => e_O_readCodes_23 (bif_i (fun q => ⟨by omega, s_codes2_err hr h m (k + 1) _ _ (by omega) (by omega)⟩) (fun q => s_fine (fun e => absurd e hr) (fun _ => bif_t rfl ⟨by omega, s_codes2_err hr h m (k + 1) _ _ (by omega) (by omega)⟩)))
    exact e_O_readCodes_2 (bif_f (by omega) ⟨rfl, e_L_codesOf_0 (bif_i (fun q => ⟨by omega, G _⟩) (fun q => ⟨by omega, by omega, G _⟩))⟩)
theorem s_codes_err {K : bm_S → Prop} {H : Nat × Int → bm_S → Prop} {ι : bm_S} (hr : ι 0 0 3 ≠ 0) (h : K ι) : bC sc 86 [br 8 0] ι (bk0 K H) := e_O_readCodes_0 (s_codes2_err hr h 3 0 _ _ (by omega) (by omega))
variable {β : Int → Int} {lim : Int}
abbrev fCoA (cm : Int) (t : Nat) (i j : Int) : Prop := fR t i j ∨ t = 23 ∨ t = 24 ∨ t = 25 ∨ t = 4 ∧ (j = 5 ∨ j = 6 ∨ j = 7) ∨ (i = 73 ∨ 36 * cm ≤ i ∧ i < 36 * cm + 36) ∧ (t = 21 ∨ t = 22 ∨ t = 3 ∧ j = 2)
/-- comp: a sort of codes after the other -/
theorem s_codes_in {Q : bm_O → bm_S → Prop} {ι : bm_S} {cm n q : Int} {v2 v3 : bm_V} (hq : q = 0 ∨ q = 1 ∨ q = 2) (h6 : ι 8 0 6 = cm) (hn : n ≤ 12) (e : (if q = 1 then ι 43 cm 1 else ι 44 cm (q / 2)) = n) (h : bW sc 86 23 [br 8 0, bi q, bi n, bi 0] [] ι Q) : bW sc 86 2 [br 8 0, bi q, v2, v3] [] ι Q := by
  refine e_O_readCodes_2 (bif_f (by omega) ⟨rfl, ?_⟩)
  rw [h6]
  refine e_L_codesOf_0 (bif_i (fun c => ⟨by omega, ?_⟩) (fun c => ⟨by omega, by omega, ?_⟩))
  · rw [if_pos c] at e
    show bW sc 86 23 [br 8 0, bi q, bi (min (ι 43 cm 1) 12), bi 0] [] ι Q
    rw [e, show min n 12 = n by omega]; exact h
  · rw [if_neg c] at e
    show bW sc 86 23 [br 8 0, bi q, bi (min (ι 44 cm (q / 2)) 12), bi 0] [] ι Q
    rw [e, show min n 12 = n by omega]; exact h
theorem s_codes_out {K : bm_S → Prop} {H : Nat × Int → bm_S → Prop} {ι : bm_S} {cm tl : Int} {v2 v3 : bm_V} (hf : ι 0 0 3 = 0) (h6 : ι 8 0 6 = cm) (h4 : ι 8 0 4 = tl) (hcm : cm < 2) (htl : tl < 2) (h : K (up (up (up ι 8 0 4 cm) 8 0 6 tl) 8 0 5 1)) : bW sc 86 2 [br 8 0, bi 3, v2, v3] [] ι (bk0 K H) := by
  refine e_O_readCodes_2 (bif_t (by omega) (s_fine (fun _ => bif_f (by omega) ⟨rfl, rfl, ⟨rfl, rfl, by omega⟩, ⟨rfl, rfl, by omega⟩, by omega, ?_⟩) (fun e => absurd hf e)))
  show K (up (up (up ι 8 0 4 (ι 8 0 6)) 8 0 6 (ι 8 0 4)) 8 0 5 1)
  rw [h6, h4]; exact h
/-- all codes of a part -/
def CoC (ι : bm_S) (cm q n : Int) (LO : Int → Int) (LL : Int → Int → Int) (a : Nat) : Prop := ∀ t, 0 ≤ t → t < n → CodeC ι (36 * cm + 3 * t + q) (LO t) (LL t) a
def CoM (ι : bm_S) (st w n : Int) (LO : Int → Int) (LL : Int → Int → Int) (a : Nat) : Prop := ∀ t, 0 ≤ t → t < n → CodeM ι (st + w * t) (LO t) (LL t) a
def CoO (n : Int) (LO : Int → Int) (LL : Int → Int → Int) (a : Nat) : Prop := ∀ t, 0 ≤ t → t < n → CodeOK (LO t) (LL t) a ∧ (0 ≤ LO t → ∀ s : Nat, s < a → LL t s = 0)
theorem CoC.fr {ι ι' : bm_S} {cm q n : Int} {LO : Int → Int} {LL : Int → Int → Int} {a : Nat} {P : Nat → Int → Int → Prop} (h : CoC ι cm q n LO LL a) (hF : Fr P ι ι') (hP : ∀ t j : Int, 0 ≤ t → t < n → ¬ P 3 (36 * cm + 3 * t + q) 2 ∧ ¬ P 21 (36 * cm + 3 * t + q) j ∧ ¬ P 22 (36 * cm + 3 * t + q) j) : CoC ι' cm q n LO LL a := fun t x y => (h t x y).fr hF (fun j => hP t j x y)
theorem CoM.fr {ι ι' : bm_S} {st w n : Int} {LO : Int → Int} {LL : Int → Int → Int} {a : Nat} {P : Nat → Int → Int → Prop} (h : CoM ι st w n LO LL a) (hF : Fr P ι ι') (ha : 0 < a) (hP : ∀ (t : Int) (s : Nat), 0 ≤ t → t < n → s < a → ¬ P 73 0 (st + w * t) ∧ ¬ P 71 0 (st + w * t + s) ∧ ¬ P 72 0 (st + w * t + s)) : CoM ι' st w n LO LL a := fun t x y => (h t x y).fr hF (fun s hs => hP t s x y hs) ha
abbrev gCoA (t : Nat) (i j : Int) : Prop := gR t i j ∨ t = 75 ∨ (t = 71 ∨ t = 72) ∧ (120 ≤ j ∧ j < 17880 ∨ 17910 ≤ j ∧ j < 17928) ∨ t = 73 ∧ (120 ≤ j ∧ j < 17880 ∨ j = 17910)
abbrev fCoS (cm : Int) (t : Nat) (i j : Int) : Prop := fCoA cm t i j ∨ t = 8 ∧ (j = 4 ∨ j = 5 ∨ j = 6)
theorem j_codesAll (hw : wfβ β lim) {n0 n1 n2 cm tl pf dr : Int} (hcm : cm = 0 ∨ cm = 1) (htl : tl = 0 ∨ tl = 1) (hn0 : 1 ≤ n0 ∧ n0 ≤ 12) (hn1 : 1 ≤ n1 ∧ n1 ≤ 12) (hn2 : 1 ≤ n2 ∧ n2 ≤ 12) (hpf : 0 ≤ pf ∧ pf < 4) (hdr : 0 ≤ dr ∧ dr ≤ 120) (p : Int) (hp0 : 0 ≤ p) (hp1 : p ≤ lim) :
    ∃ (p' r : Int) (LO0 LO1 LO2 : Int → Int) (LL0 LL1 LL2 : Int → Int → Int) (a2 : Nat), p ≤ p' ∧ p' ≤ lim ∧ (r = 0 ∨ 0 < r ∧ r < 18) ∧ (a2 : Int) = 16 + dr + 48 * bm_p2 pf ∧ (r = 0 → CoO n0 LO0 LL0 256 ∧ CoO n1 LO1 LL1 704 ∧ CoO n2 LO2 LL2 a2) ∧
    (∀ (ι : bm_S) (K : bm_S → Prop) (H : Nat × Int → bm_S → Prop), cR ι β lim p 0 → ι 8 0 6 = cm → ι 8 0 4 = tl → ι 44 cm 0 = n0 → ι 43 cm 1 = n1 → ι 44 cm 1 = n2 → ι 7 cm 8 = pf → ι 7 cm 9 = dr → (∀ ι' : bm_S, cR ι' β lim p' r → (r = 0 → CoC ι' cm 0 n0 LO0 LL0 256 ∧ CoC ι' cm 1 n1 LO1 LL1 704 ∧ CoC ι' cm 2 n2 LO2 LL2 a2 ∧ ι' 8 0 4 = cm ∧ ι' 8 0 6 = tl ∧ ι' 8 0 5 = 1) → (r ≠ 0 → ι' 8 0 4 = tl ∧ ι' 8 0 6 = cm ∧ ι' 8 0 5 = ι 8 0 5) → Fr (fCoS cm) ι ι' → K ι') → bC sc 86 [br 8 0] ι (bk0 K H)) ∧
    (∀ (ι : bm_S) (Q : bm_O → bm_S → Prop), mR ι β lim p → ι 13 0 29 = n0 → ι 78 0 1 = n1 → ι 13 0 30 = n2 → ι 13 0 22 = pf → ι 13 0 23 = dr → (r = 0 → ∀ ι' : bm_S, mR ι' β lim p' → CoM ι' 120 256 n0 LO0 LL0 256 → CoM ι' 3192 704 n1 LO1 LL1 704 → CoM ι' 11640 520 n2 LO2 LL2 a2 → Fr gCoA ι ι' → bC sc 199 [br 13 0] ι' (bk0 (fun ι1 => Q (.inl none) ι1) (bq Q))) → (r ≠ 0 → ∀ ι' : bm_S, mR ι' β lim p' → ι' 12 0 6 = r → Fr gCoA ι ι' → bq Q (12, 0) ι') → bW sc 198 188 [br 13 0, bi 0] [] ι Q) := by
  have hp2 := p2_3 hpf
  obtain ⟨a2, ha2⟩ : ∃ a2 : Nat, (a2 : Int) = 16 + dr + 48 * bm_p2 pf := ⟨(16 + dr + 48 * bm_p2 pf).toNat, by omega⟩
  obtain ⟨p1, r1, LO0, LL0, i1, i2, i3, i4, i5, i6⟩ := j_codes0 (sc := sc) (a := 256) hw hcm hn0 hpf hdr rfl n0.toNat 0 p (by omega) (by omega) hp0 hp1
  have err : ∀ (ι ι1 : bm_S) (p r q : Int) (v2 v3 : bm_V) (K : bm_S → Prop) (H : Nat × Int → bm_S → Prop), 0 ≤ q → q ≤ 3 → cR ι1 β lim p r → r ≠ 0 → K ι1 → bW sc 86 2 [br 8 0, bi q, v2, v3] [] ι1 (bk0 K H) := fun ι ι1 p r q v2 v3 K H q0 q1 hR hr h => s_codes2_err (by rw [hR.2.2.1]; exact hr) h (3 - q).toNat q v2 v3 (by omega) q0
  by_cases hr1 : r1 = 0
  · obtain ⟨p2, r2, LO1, LL1, k1, k2, k3, k4, k5, k6⟩ := j_codes1 (sc := sc) (a := 704) hw hcm hn1 hpf hdr rfl n1.toNat 0 p1 (by omega) (by omega) (by omega) i2
    by_cases hr2 : r2 = 0
    · obtain ⟨p3, r3, LO2, LL2, t1, t2, t3, t4, t5, t6⟩ := j_codes2 (sc := sc) (a := a2) hw hcm hn2 hpf hdr ha2 n2.toNat 0 p2 (by omega) (by omega) (by omega) k2
      refine ⟨p3, r3, LO0, LO1, LO2, LL0, LL1, LL2, a2, by omega, t2, t3, ha2, fun e => ⟨i4 hr1, k4 hr2, t4 e⟩, ?_, ?_⟩
      rotate_left 1
      · intro ι Q hR e0 e1 e2 e22 e23 h hh
        refine i6 ι Q hR e0 e22 e23 (fun _ ι1 a1 b1 c1 => e_M_readHeads_188 (bif_t (by rw [c1 13 0 29 (by omega)]; omega) ?_)) (fun e => absurd hr1 e)
        refine k6 ι1 Q a1 (by rw [c1 78 0 1 (by omega)]; exact e1) (by rw [c1 13 0 22 (by omega)]; exact e22) (by rw [c1 13 0 23 (by omega)]; exact e23) (fun _ ι2 a3 b3 c3 => e_M_readHeads_219 ⟨by omega, bif_t (by rw [c3 78 0 1 (by omega), c1 78 0 1 (by omega)]; omega) ?_⟩) (fun e => absurd hr2 e)
        have hF2 : Fr gCoA ι ι2 := (c1.wide fun t i j q => by grind).trans (c3.wide fun t i j q => by grind)
        refine t6 ι2 Q a3 (by rw [hF2 13 0 30 (by omega)]; exact e2) (by rw [hF2 13 0 22 (by omega)]; exact e22) (by rw [hF2 13 0 23 (by omega)]; exact e23) (fun e ι3 a4 b4 c4 => e_M_readHeads_253 (bif_t (by rw [c4 13 0 30 (by omega), hF2 13 0 30 (by omega)]; omega) ?_)) (fun e ι3 a4 b4 c4 => hh e ι3 a4 b4 (hF2.trans (c4.wide fun t i j q => by grind)))
        exact h e ι3 a4 (fun t x y => ((b1 t x y).fr c3 (fun s hs => by omega) (by omega)).fr c4 (fun s hs => by omega) (by omega)) (fun t x y => (b3 t x y).fr c4 (fun s hs => by omega) (by omega)) b4 (hF2.trans (c4.wide fun t i j q => by grind))
      intro ι K H hR h6 h4 e0 e1 e2 h8 h9 h
      refine e_O_readCodes_0 (s_codes_in (cm := cm) (n := n0) (by omega) h6 (by omega) e0 (i5 ι _ hR h6 h8 h9 fun ι1 x a1 b1 c1 => ?_))
      rw [hr1] at a1
      refine s_codes_in (q := 1) (cm := cm) (n := n1) (by omega) (by rw [c1 8 0 6 (by omega)]; exact h6) (by omega) (by rw [if_pos rfl, c1 43 cm 1 (by omega)]; exact e1) (k5 ι1 _ a1 (by rw [c1 8 0 6 (by omega)]; exact h6) (by rw [c1 7 cm 8 (by omega)]; exact h8) (by rw [c1 7 cm 9 (by omega)]; exact h9) fun ι2 x2 a3 b3 c3 => ?_)
      rw [hr2] at a3
      have hF2 : Fr (fCoA cm) ι ι2 := (c1.wide fun t i j q => by grind).trans (c3.wide fun t i j q => by grind)
      refine s_codes_in (q := 2) (cm := cm) (n := n2) (by omega) (by rw [hF2 8 0 6 (by omega)]; exact h6) (by omega) (by rw [if_neg (by omega)]; show ι2 44 cm 1 = n2; rw [hF2 44 cm 1 (by omega)]; exact e2) (t5 ι2 _ a3 (by rw [hF2 8 0 6 (by omega)]; exact h6) (by rw [hF2 7 cm 8 (by omega)]; exact h8) (by rw [hF2 7 cm 9 (by omega)]; exact h9) fun ι3 x3 a4 b4 c4 => ?_)
      have hF3 : Fr (fCoA cm) ι ι3 := hF2.trans (c4.wide fun t i j q => by grind)
      by_cases hr3 : r3 = 0
      · have E0 : CoC ι3 cm 0 n0 LO0 LL0 256 := fun t x y => by
          have z := ((b1 hr1 t x y).fr c3 (fun j => by omega)).fr c4 (fun j => by omega)
          rw [show 36 * cm + 3 * t + 0 = 36 * cm + 3 * t by omega]; exact z
        have E1 : CoC ι3 cm 1 n1 LO1 LL1 704 := fun t x y => (b3 hr2 t x y).fr c4 (fun j => by omega)
        have E2 : CoC ι3 cm 2 n2 LO2 LL2 a2 := fun t x y => b4 hr3 t x y
        refine s_codes_out (cm := cm) (tl := tl) (by rw [a4.2.2.1]; exact hr3) (by rw [hF3 8 0 6 (by omega)]; exact h6) (by rw [hF3 8 0 4 (by omega)]; exact h4) (by omega) (by omega) ?_
        have hG : Fr (fun t i j => t = 8) ι3 (up (up (up ι3 8 0 4 cm) 8 0 6 tl) 8 0 5 1) := (((Fr.refl _ _).u (by omega)).u (by omega)).u (by omega)
        refine h _ (a4.fr hG (fun j => by omega) (by simp (disch := omega) only [up_s, up_k, up_j, up_i]; exact a4.1) (by simp (disch := omega) only [up_s, up_k, up_j, up_i]; exact a4.2.2.1)) (fun _ => ⟨E0.fr hG (fun t j x y => by omega), E1.fr hG (fun t j x y => by omega), E2.fr hG (fun t j x y => by omega), by simp (disch := omega) only [up_s, up_k, up_j, up_i], by simp (disch := omega) only [up_s, up_k, up_j, up_i], by simp (disch := omega) only [up_s, up_k, up_j, up_i]⟩) (fun e => absurd hr3 e) ((((hF3.wide fun t i j q => by grind).u (by omega)).u (by omega)).u (by omega))
      · exact err ι ι3 _ _ _ _ _ _ _ (by omega) (by omega) a4 hr3 (h ι3 a4 (fun e => absurd e hr3) (fun _ => ⟨by rw [hF3 8 0 4 (by omega)]; exact h4, by rw [hF3 8 0 6 (by omega)]; exact h6, hF3 8 0 5 (by omega)⟩) (hF3.wide fun t i j q => by grind))
    · refine ⟨p2, r2, LO0, LO1, fun _ => 0, LL0, LL1, fun _ _ => 0, a2, by omega, k2, k3, ha2, fun e => absurd e hr2, ?_, ?_⟩
      rotate_left 1
      · intro ι Q hR e0 e1 e2 e22 e23 h hh
        refine i6 ι Q hR e0 e22 e23 (fun _ ι1 a1 b1 c1 => e_M_readHeads_188 (bif_t (by rw [c1 13 0 29 (by omega)]; omega) ?_)) (fun e => absurd hr1 e)
        exact k6 ι1 Q a1 (by rw [c1 78 0 1 (by omega)]; exact e1) (by rw [c1 13 0 22 (by omega)]; exact e22) (by rw [c1 13 0 23 (by omega)]; exact e23) (fun e => absurd e hr2) (fun e ι2 a3 b3 c3 => hh e ι2 a3 b3 ((c1.wide fun t i j q => by grind).trans (c3.wide fun t i j q => by grind)))
      intro ι K H hR h6 h4 e0 e1 e2 h8 h9 h
      refine e_O_readCodes_0 (s_codes_in (cm := cm) (n := n0) (by omega) h6 (by omega) e0 (i5 ι _ hR h6 h8 h9 fun ι1 x a1 b1 c1 => ?_))
      rw [hr1] at a1
      refine s_codes_in (q := 1) (cm := cm) (n := n1) (by omega) (by rw [c1 8 0 6 (by omega)]; exact h6) (by omega) (by rw [if_pos rfl, c1 43 cm 1 (by omega)]; exact e1) (k5 ι1 _ a1 (by rw [c1 8 0 6 (by omega)]; exact h6) (by rw [c1 7 cm 8 (by omega)]; exact h8) (by rw [c1 7 cm 9 (by omega)]; exact h9) fun ι2 x2 a3 b3 c3 => ?_)
      have hF2 : Fr (fCoA cm) ι ι2 := (c1.wide fun t i j q => by grind).trans (c3.wide fun t i j q => by grind)
      exact err ι ι2 _ _ _ _ _ _ _ (by omega) (by omega) a3 hr2 (h ι2 a3 (fun e => absurd e hr2) (fun _ => ⟨by rw [hF2 8 0 4 (by omega)]; exact h4, by rw [hF2 8 0 6 (by omega)]; exact h6, hF2 8 0 5 (by omega)⟩) (hF2.wide fun t i j q => by grind))
  · refine ⟨p1, r1, LO0, fun _ => 0, fun _ => 0, LL0, fun _ _ => 0, fun _ _ => 0, a2, i1, i2, i3, ha2, fun e => absurd e hr1, ?_, ?_⟩
    rotate_left 1
    · intro ι Q hR e0 e1 e2 e22 e23 h hh
      exact i6 ι Q hR e0 e22 e23 (fun e => absurd e hr1) (fun e ι1 a1 b1 c1 => hh e ι1 a1 b1 (c1.wide fun t i j q => by grind))
    intro ι K H hR h6 h4 e0 e1 e2 h8 h9 h
    refine e_O_readCodes_0 (s_codes_in (cm := cm) (n := n0) (by omega) h6 (by omega) e0 (i5 ι _ hR h6 h8 h9 fun ι1 x a1 b1 c1 => ?_))
    exact err ι ι1 _ _ _ _ _ _ _ (by omega) (by omega) a1 hr1 (h ι1 a1 (fun e => absurd e hr1) (fun _ => ⟨by rw [c1 8 0 4 (by omega)]; exact h4, by rw [c1 8 0 6 (by omega)]; exact h6, c1 8 0 5 (by omega)⟩) (c1.wide fun t i j q => by grind))
end Heads
