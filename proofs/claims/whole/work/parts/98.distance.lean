/-! the commands: how far back -/
section Distance
variable {sc : bm_Sc} {β : Int → Int} {lim : Int} {W : bm_S} {tl s : Int} {f : Int → Int} {ks : Int → Int → Int} {rg PA : Int → Int}
theorem jx_number (hw : wfβ β lim) (n : Int) (hn : 0 ≤ n ∧ n ≤ 24) (p r0 : Int) (hp0 : 0 ≤ p) (hp1 : p ≤ lim) :
    ∃ (p' r v : Int), p ≤ p' ∧ p' ≤ lim ∧ (r0 ≠ 0 → r = r0 ∧ p' = p) ∧ (r0 = 0 → r = 0 ∨ r = 1) ∧ 0 ≤ v ∧ v < bm_p2 n ∧
    (∀ (ι : bm_S) (K : Int → bm_S → Prop) (H : Nat × Int → bm_S → Prop), cR ι β lim p r0 → (∀ ι' : bm_S, cR ι' β lim p' r → Fr fR ι ι' → K v ι') → bC sc 4 [br 0 0, bi n] ι (bk1 K H)) ∧
    (r0 = 0 → ∀ (ι : bm_S) (K : Int → bm_S → Prop) (H : Nat × Int → bm_S → Prop), mR ι β lim p → (r = 0 → ∀ ι' : bm_S, mR ι' β lim p' → Fr gR ι ι' → K v ι') → (r ≠ 0 → ∀ ι' : bm_S, mR ι' β lim p' → ι' 12 0 6 = r → Fr gR ι ι' → H (12, 0) ι') → bC sc 174 [br 13 0, bi n] ι (bk1 K H)) := by
  by_cases hr : r0 = 0
  · obtain ⟨p', r, v, i1, i2, i3, i4, i5, i6, i7, i8⟩ := j_number (sc := sc) hw n hn p hp0 hp1
    exact ⟨p', r, v, i1, i2, fun e => absurd hr e, fun _ => i3, i4, i5, fun ι K H hR h => i7 ι K H (by rw [hr] at hR; exact hR) h, fun _ => i8⟩
  · have := bm_p2pos n
    exact ⟨p, r0, 0, by omega, hp1, fun _ => ⟨rfl, rfl⟩, fun e => absurd e hr, by omega, by omega, fun ι K H hR h => s_number_bad (by rw [hR.2.2.1]; exact hr) (h ι hR (Fr.refl _ _)), fun e => absurd e hr⟩
theorem band0 (x : Int) : bm_band x 0 = 0 := by
  unfold bm_band
  rw [if_neg (by omega), if_neg (by omega), if_neg (by omega), if_neg (by omega), if_neg (by omega), if_neg (by omega), if_neg (by omega), if_neg (by omega), if_neg (by omega)]
  unfold bm_and
  have : Int32.ofInt 0 = 0 := by decide
  rw [this, Int32.and_zero]
  decide
theorem p2_5 {v : Int} (h : 0 ≤ v ∧ v < 6) : bm_p2 v = 1 ∨ bm_p2 v = 2 ∨ bm_p2 v = 4 ∨ bm_p2 v = 8 ∨ bm_p2 v = 16 ∨ bm_p2 v = 32 := by
  have : v = 0 ∨ v = 1 ∨ v = 2 ∨ v = 3 ∨ v = 4 ∨ v = 5 := by omega
  rcases this with rfl | rfl | rfl | rfl | rfl | rfl <;> decide
theorem band_mod {x v : Int} (h : 0 ≤ v ∧ v < 6) : bm_band x (1 * bm_p2 v - 1) = x % bm_p2 v := by
  rcases p2_5 h with e | e | e | e | e | e <;> rw [e]
  · rw [show (1 * 1 - 1 : Int) = 0 by omega, band0]; omega
  all_goals rfl
/-- the distance that a sign says -/
theorem j_distance (hw : wfβ β lim) (hO : HO W) (hrg : ∀ i, 0 ≤ i → i < 4 → 1 ≤ rg i ∧ rg i ≤ 4096) (x : Int) (hx : 0 ≤ x ∧ x < Wa W) (p r0 : Int) (hp0 : 0 ≤ p) (hp1 : p ≤ lim) :
    ∃ (p' r d : Int), p ≤ p' ∧ p' ≤ lim ∧ (r0 ≠ 0 → r = r0 ∧ p' = p) ∧ (r0 = 0 → r = 0 ∨ r = 1) ∧ (-10 ≤ d ∧ d ≤ 1000000000) ∧
    (∀ (ι : bm_S) (K : Int → bm_S → Prop) (H : Nat × Int → bm_S → Prop), cR ι β lim p r0 → HC ι tl W → (∀ i, 0 ≤ i → i < 4 → ι 51 0 i = rg i) → (∀ ι' : bm_S, cR ι' β lim p' r → Fr fR ι ι' → K d ι') → bC sc 90 [br 8 0, bi x] ι (bk1 K H)) ∧
    (r0 = 0 → ∀ (ι : bm_S) (K : Int → bm_S → Prop) (H : Nat × Int → bm_S → Prop), mR ι β lim p → HM ι W → (∀ i, 0 ≤ i → i < 4 → ι 77 0 (3 - i) = rg i) → (r = 0 → ∀ ι' : bm_S, mR ι' β lim p' → Fr gR ι ι' → K d ι') → (r ≠ 0 → ∀ ι' : bm_S, mR ι' β lim p' → ι' 12 0 6 = r → Fr gR ι ι' → H (12, 0) ι') → bC sc 215 [br 13 0, bi x] ι (bk1 K H)) := by
  obtain ⟨-, hpf, hdr, -⟩ := hO
  have hp2 := p2_3 hpf
  have g0 := hrg 0 (by omega) (by omega)
  have g1 := hrg 1 (by omega) (by omega)
  by_cases c1 : x < 4
  · have gx := hrg x (by omega) (by omega)
    refine ⟨p, r0, rg x, by omega, hp1, fun _ => ⟨rfl, rfl⟩, fun e => Or.inl e, by omega, ?_, ?_⟩
    · intro ι K H hR hC hg h
      refine e_O_readDistance_0 (bif_f (by omega) ⟨by omega, ?_⟩)
      rw [hg x (by omega) (by omega)]
      exact h ι hR (Fr.refl _ _)
    · intro e ι K H hR hM hg h hh
      refine e_M_distanceOf_0 (bif_f (by omega) ⟨by omega, by omega, ?_⟩)
      rw [hg x (by omega) (by omega)]
      exact h e ι hR (Fr.refl _ _)
  by_cases c2 : x < 16
  · have hd : (x - 4) % 6 / 2 ≤ 2 ∧ 0 ≤ (x - 4) % 6 / 2 := by omega
    obtain ⟨b, hb⟩ : ∃ b, b = (if 10 ≤ x then rg 1 else rg 0) := ⟨_, rfl⟩
    have hbr : 1 ≤ b ∧ b ≤ 4096 := by
      rw [hb]
      by_cases c : 10 ≤ x
      · rw [if_pos c]; exact g1
      · rw [if_neg c]; exact g0
    refine ⟨p, r0, if (x - 4) % 6 % 2 = 0 then b + (-(1 + (x - 4) % 6 / 2)) else b + (1 + (x - 4) % 6 / 2), by omega, hp1, fun _ => ⟨rfl, rfl⟩, fun e => Or.inl e, by split <;> omega, ?_, ?_⟩
    · intro ι K H hR hC hg h
      have h := h ι hR (Fr.refl _ _)
      refine e_O_readDistance_0 (bif_t (by omega) (bif_f (by omega) ⟨by omega, by omega, by omega, by omega, ?_⟩))
      rw [hg 0 (by omega) (by omega), hg 1 (by omega) (by omega)]
      refine bif_i (fun c => ?_) (fun c => ?_)
      · rw [if_pos c] at hb
        rw [← hb]
        refine ⟨by omega, by omega, bif_i (fun c3 => ⟨by omega, by omega, ?_⟩) (fun c3 => ⟨by omega, ?_⟩)⟩
        · rw [if_pos c3] at h; exact h
        · rw [if_neg c3] at h; exact h
      · rw [if_neg c] at hb
        rw [← hb]
        refine ⟨by omega, by omega, bif_i (fun c3 => ⟨by omega, by omega, ?_⟩) (fun c3 => ⟨by omega, ?_⟩)⟩
        · rw [if_pos c3] at h; exact h
        · rw [if_neg c3] at h; exact h
    · intro e ι K H hR hM hg h hh
      have h := h e ι hR (Fr.refl _ _)
      have q0 := hg 0 (by omega) (by omega)
      have q1 := hg 1 (by omega) (by omega)
      rw [show (3 - 0 : Int) = 3 by omega] at q0
      rw [show (3 - 1 : Int) = 2 by omega] at q1
      refine e_M_distanceOf_0 (bif_t (by omega) (bif_f (by omega) ?_))
      rw [q0, q1]
      refine bif_i (fun c => ⟨by omega, by omega, by omega, bif_t c ⟨by omega, by omega, ?_⟩⟩) (fun c => ⟨by omega, by omega, by omega, bif_f c ⟨by omega, by omega, ?_⟩⟩)
      · rw [if_pos c] at hb
        rw [← hb]
        refine bif_i (fun c3 => ⟨by omega, K_of h ?_⟩) (fun c3 => ⟨by omega, K_of h ?_⟩)
        · rw [if_pos (by omega)]; omega
        · rw [if_neg (by omega)]; omega
      · rw [if_neg c] at hb
        rw [← hb]
        refine bif_i (fun c3 => ⟨by omega, K_of h ?_⟩) (fun c3 => ⟨by omega, K_of h ?_⟩)
        · rw [if_pos (by omega)]; omega
        · rw [if_neg (by omega)]; omega
  obtain ⟨dr, edr⟩ : ∃ dr, dr = W 5 0 1 := ⟨_, rfl⟩
  obtain ⟨pf, epf⟩ : ∃ pf, pf = W 5 0 0 := ⟨_, rfl⟩
  rw [← epf] at hpf hp2
  rw [← edr] at hdr
  by_cases c3 : x < 16 + dr
  · refine ⟨p, r0, x - 15, by omega, hp1, fun _ => ⟨rfl, rfl⟩, fun e => Or.inl e, by omega, ?_, ?_⟩
    · intro ι K H hR hC hg h
      have h := h ι hR (Fr.refl _ _)
      refine e_O_readDistance_0 (bif_t (by omega) (bif_t (by omega) ?_))
      rw [hC.1, hC.2.1.2.2.1, ← edr]
      exact ⟨rfl, by omega, bif_f (by omega) ⟨by omega, h⟩⟩
    · intro e ι K H hR hM hg h hh
      have h := h e ι hR (Fr.refl _ _)
      refine e_M_distanceOf_0 (bif_t (by omega) (bif_t (by omega) ?_))
      rw [hM.2.1, ← edr]
      exact ⟨by omega, bif_f (by omega) ⟨by omega, h⟩⟩
  obtain ⟨h, eh⟩ : ∃ h, h = x - dr - 16 := ⟨_, rfl⟩
  have hxa : x < 16 + dr + 48 * bm_p2 pf := by
    have : ((Wa W : Nat) : Int) = 16 + dr + 48 * bm_p2 pf := by unfold Wa; rw [← epf, ← edr]; omega
    omega
  have hs2 : bm_p2 (pf + 1) = 2 * bm_p2 pf := p2_s hpf.1
  obtain ⟨P, eP⟩ : ∃ P, P = bm_p2 pf := ⟨_, rfl⟩
  rw [← eP] at hp2 hs2 hxa
  have hq : 0 ≤ h / (2 * P) ∧ h / (2 * P) ≤ 23 := by rcases hp2 with e | e | e | e <;> rw [e] at hxa ⊢ <;> omega
  obtain ⟨nb, enb⟩ : ∃ nb, nb = 1 + h / (2 * P) := ⟨_, rfl⟩
  have hnb := p2_le (k := nb) 24 (by omega) 16777216 rfl
  obtain ⟨T, eT⟩ : ∃ T, T = bm_p2 nb := ⟨_, rfl⟩
  rw [← eT] at hnb
  obtain ⟨g, eg⟩ : ∃ g, g = h / P % 2 := ⟨_, rfl⟩
  have hg2 : 0 ≤ g ∧ g ≤ 1 := by omega
  have hgT : 0 ≤ (2 + g) * T ∧ 2 * T ≤ (2 + g) * T ∧ (2 + g) * T ≤ 3 * T := by
    rcases (show g = 0 ∨ g = 1 by omega) with e | e <;> rw [e] <;> omega
  have hbd : bm_band h (1 * P - 1) = h % P := by rw [eP]; exact band_mod (by omega)
  have hbr : 0 ≤ h % P ∧ h % P < 8 := by rcases hp2 with e | e | e | e <;> rw [e] <;> omega
  obtain ⟨p', r, v, i1, i2, i3, i4, i5, i6, i7, i8⟩ := jx_number (sc := sc) hw nb (by omega) p r0 hp0 hp1
  rw [← eT] at i6
  have hm : 0 ≤ ((2 + g) * T - 4 + v) * P + 32 ∧ ((2 + g) * T - 4 + v) * P ≤ 536870912 := by rcases hp2 with e | e | e | e <;> rw [e] <;> omega
  have hd0 : 0 ≤ h / P := by rcases hp2 with e | e | e | e <;> rw [e] <;> omega
  have hneg : -8 ≤ (((2 + g) * T - 4 + v) * P) := by
    have : 0 ≤ (2 + g) * T - 4 + v := by
      have : 2 ≤ T := by
        rw [eT]
        have := p2_mono (a := 1) (b := nb) (by omega)
        have e1 : bm_p2 1 = 2 := rfl
        omega
      omega
    rcases hp2 with e | e | e | e <;> rw [e] <;> omega
  refine ⟨p', r, ((2 + g) * T - 4 + v) * P + h % P + dr + 1, i1, i2, i3, i4, by omega, ?_, ?_⟩
  · intro ι K H hR hC hg h1
    refine e_O_readDistance_0 (bif_t (by omega) (bif_t (by omega) ?_))
    rw [hC.1, hC.2.1.2.2.1, hC.2.1.2.1, ← edr, ← epf, ← eh, hs2, ← eP, ← enb, ← eT, ← eg]
    refine ⟨rfl, by omega, bif_t (by omega) ⟨rfl, by omega, by omega, rfl, by omega, by omega, by omega, by omega, by omega, ⟨by omega, by omega⟩, by omega, i7 ι _ _ hR (fun ι1 x1 F1 => ?_)⟩⟩
    have C1 := hC.fr (F1.wide fun t i j q => by omega)
    rw [C1.1, C1.2.1.2.2.1, ← edr, hbd]
    exact ⟨by omega, ⟨by omega, by omega⟩, ⟨by omega, by omega⟩, by omega, by omega, rfl, by omega, by omega, h1 ι1 x1 F1⟩
  · intro e ι K H hR hM hg h1 hh
    refine e_M_distanceOf_0 (bif_t (by omega) (bif_t (by omega) ?_))
    rw [hM.2.1, hM.1, ← edr, ← epf, ← eh, hs2, ← enb]
    refine ⟨by omega, bif_t (by omega) ⟨by omega, by omega, by omega, by omega, by omega, i8 e ι _ _ hR (fun e1 ι1 x1 F1 => ?_) hh⟩⟩
    rw [F1 13 0 22 (by omega), F1 13 0 23 (by omega), hM.1, hM.2.1, ← epf, ← edr, ← eP, ← eT, ← eg, hbd]
    exact ⟨by omega, ⟨by omega, by omega⟩, by omega, ⟨by omega, by omega⟩, by omega, by omega, ⟨by omega, by omega⟩, ⟨by omega, by omega⟩, by omega, by omega, by omega, by omega, h1 e1 ι1 x1 F1⟩
/-- the sign of a distance -/
theorem j_backSign (hw : wfβ β lim) (hO : HO W) (htl : tl = 0 ∨ tl = 1) (hs : 0 ≤ s ∧ s ≤ 4096) (hV : LV W s f ks rg) (x : Int) (hx : 2 ≤ x ∧ x ≤ 20000000) (p : Int) (hp0 : 0 ≤ p) (hp1 : p ≤ lim) :
    ∃ (p' r sg : Int) (ks' : Int → Int → Int), p ≤ p' ∧ p' ≤ lim ∧ (r = 0 ∨ r = 1) ∧ (0 ≤ sg ∧ sg < Wa W) ∧ LV W s f ks' rg ∧
    (∀ (ι : bm_S) (PA : Int → Int) (K : Int → bm_S → Prop) (H : Nat × Int → bm_S → Prop), cR ι β lim p 0 → HC ι tl W → LC ι W s f ks rg PA → (∀ ι' : bm_S, cR ι' β lim p' r → (r = 0 → LC ι' W s f ks' rg PA) → EC ι' rg PA → Fr fLp ι ι' → K sg ι') → bC sc 89 [br 8 0, bi x] ι (bk1 K H)) ∧
    (∀ (ι : bm_S) (PA : Int → Int) (en : Int) (Q : bm_O → bm_S → Prop), mR ι β lim p → HM ι W → LM ι W s f ks rg PA → (r = 0 → ∀ (ι' : bm_S) (v5 : bm_V), mR ι' β lim p' → LM ι' W s f ks' rg PA → Fr gLp ι ι' → bW sc 217 60 [br 13 0, bi 0, bi x, bi en, bi sg, v5, bu, bu] [] ι' Q) → (r ≠ 0 → ∀ ι' : bm_S, mR ι' β lim p' → ι' 12 0 6 = r → EM ι' rg PA → Fr gLp ι ι' → bq Q (12, 0) ι') → bC sc 217 [br 13 0, bi 0, bi x, bi en] ι Q) := by
  have hO2 := hO.1 2 (by omega) (by omega)
  have hM1 := hO.2.2.2.2.2.2.2.1
  have hn1 := hO.2.2.2.2.1
  have hC2 := hO.2.2.2.2.2.2.2.2.2.2
  have hp2 := p2_3 hO.2.1
  have hdr := hO.2.2.1
  have hWa : ((Wa W : Nat) : Int) = 16 + W 5 0 1 + 48 * bm_p2 (W 5 0 0) := by unfold Wa; omega
  obtain ⟨p1, r1, k', b', l', i1, i2, i3, i4, i5, i6⟩ := j_takeOne (sc := sc) hw 2 (by omega) (hV.2.1 2 (by omega) (by omega)) hO2.2 p hp0 hp1
  have hVt := KW.take (q := 2) hV.2.1 i4
  -- comp up to the code
  have goC : ∀ (ι1 : bm_S) (k : Int) (K : Int → bm_S → Prop) (H : Nat × Int → bm_S → Prop), HC ι1 tl W → ι1 1 2 3 = k → 0 ≤ k ∧ k < 12 → bC sc 5 [br 0 0, br 3 (36 * tl + 3 * W 8 0 (4 * k + min (x - 2) 3) + 2)] ι1 (bk1 K H) →
      ((0 : Int) = 0) ∧ (bm_rg (4 * ι1 1 2 3)) ∧ (bm_rg (x - 2)) ∧ (bm_rg (4 * ι1 1 2 3 + min (x - 2) 3)) ∧ (0 ≤ 4 * ι1 1 2 3 + min (x - 2) 3 ∧ 4 * ι1 1 2 3 + min (x - 2) 3 < (48 : Int)) ∧ ((0 : Int) = 0) ∧ bC sc 67 [br 7 (ι1 8 0 4), bi 2, bi (ι1 47 (ι1 8 0 4) (4 * ι1 1 2 3 + min (x - 2) 3))] ι1 (bk3 (fun r2 ι2 => bC sc 5 [br 0 0, br 3 r2] ι2 (bk1 K H)) H) := by
    intro ι1 k K H hC e hk h
    rw [e, hC.1]
    have hm := hM1 (4 * k + min (x - 2) 3) (by omega) (by omega)
    refine ⟨rfl, by omega, by omega, by omega, by omega, rfl, ?_⟩
    rw [hC.2.1.2.2.2.2.2.2.2.1 _ (by omega) (by omega)]
    refine e_L_code_0 (bif_f (by omega) (bif_f (by omega) ⟨⟨by omega, by omega, by omega⟩, ?_⟩))
    rw [show min (max (W 8 0 (4 * k + min (x - 2) 3)) 0) 11 = W 8 0 (4 * k + min (x - 2) 3) by omega]
    exact ⟨rfl, h⟩
  by_cases hr : r1 = 0
  · have hk := i4.2.1
    have hk2 := i4.1
    obtain ⟨t, ht⟩ : ∃ t, t = W 8 0 (4 * k' + min (x - 2) 3) := ⟨_, rfl⟩
    have htr := hM1 (4 * k' + min (x - 2) 3) (by omega) (by omega)
    rw [← ht] at htr
    obtain ⟨p2, r2, v, j1, j2, j3, j4, j5, j6⟩ := j_signT (sc := sc) (a := Wa W) (L := W 12 t) (lone := W 9 2 t) hw (by omega) (hC2 t htr.1 htr.2).1 p1 (by omega) i2
    refine ⟨p2, r2, if r2 = 0 then v else 0, sel ks 2 (t3 k' b' l'), by omega, j2, by omega, by split <;> omega, ⟨hV.1, hVt, hV.2.2⟩, ?_, ?_⟩
    · intro ι PA K H hR hC hL h
      refine e_O_readDistanceSign_0 ⟨by omega, i5 ι _ _ hR (hL.2.2.1 2 (by omega) (by omega)) (hC.2.2 2 (by omega) (by omega)) (fun ι1 x1 x2 x3 F1 => ?_)⟩
      have L1 := hL.take (by omega) F1 (x2 hr)
      have C1 := hC.fr (F1.wide fun t i j q => by omega)
      rw [hr] at x1
      refine goC ι1 k' K H C1 (x2 hr).2.1 (by omega) ?_
      rw [← ht]
      refine j5 ι1 _ _ _ (by rw [L22 (by omega), if_neg (by omega), if_neg (by omega)]; omega) x1 (C1.2.1.2.2.2.2.2.2.2.2.2.2 t htr.1 htr.2) (fun ι2 y1 F2 => ?_)
      have L2 := L1.fr F2
      exact h ι2 y1 (fun _ => L2) (L2.ec hs) ((F1.wide fun t i j q => by omega).trans (F2.wide fun t i j q => by omega))
    · intro ι PA en Q hR hM hL h hh
      refine e_M_goBack_0 (bif_t rfl (i6 ι _ _ hR (hL.2.2.1 2 (by omega) (by omega)) (hM.2.2.2.2.2.2 2 (by omega) (by omega)) (fun _ ι1 x1 x2 F1 => ?_) (fun e => absurd hr e)))
      have L1 := hL.take (by omega) F1 x2
      have M1 := hM.fr hO (F1.wide fun t i j q => by omega)
      have hF1 : Fr gLp ι ι1 := F1.wide fun t i j q => by omega
      have go : bC sc 170 [br 13 0] ι1 (bk1 (fun r2 ι2 => bC sc 176 [br 13 0, bi (11640 + 520 * t), bi r2] ι2 (bk1 (fun r3 ι3 => bW sc 217 60 [br 13 0, bi 0, bi x, bi en, bi r3, bi t, bu, bu] [] ι3 Q) (bq Q))) (bq Q)) := by
        refine e_M_distanceSigns_0 ?_
        rw [M1.1, M1.2.1]
        refine ⟨by omega, ⟨by have := hO.2.1; omega, by omega⟩, by omega, ?_⟩
        show bC sc 176 [br 13 0, bi (11640 + 520 * t), bi (16 + W 5 0 1 + 48 * bm_p2 (W 5 0 0))] ι1 (bk1 (fun r3 ι3 => bW sc 217 60 [br 13 0, bi 0, bi x, bi en, bi r3, bi t, bu, bu] [] ι3 Q) (bq Q))
        rw [← hWa]
        refine j6 ι1 _ _ _ (by omega) (by omega) x1 (M1.2.2.2.2.2.1.2.2 t htr.1 htr.2) (fun e ι2 y1 F2 => ?_) (fun e ι2 y1 y2 F2 => ?_)
        · have := h e ι2 (bi t) y1 (L1.fr F2) (hF1.trans (F2.wide fun t i j q => by omega))
          rw [if_pos e] at this
          exact this
        · exact hh (by omega) ι2 y1 (by omega) (L1.fr F2).em (hF1.trans (F2.wide fun t i j q => by omega))
      rw [x2.2.1]
      refine ⟨by omega, by omega, bif_i (fun c => ?_) (fun c => ?_)⟩
      · rw [show min (x - 2) 3 = x - 2 by omega] at ht
        rw [M1.2.2.2.2.1 _ (by omega) (by omega), ← ht]
        exact ⟨by omega, by omega, by omega, by omega, by omega, go⟩
      · rw [show min (x - 2) 3 = 3 by omega] at ht
        rw [M1.2.2.2.2.1 _ (by omega) (by omega), ← ht]
        exact ⟨by omega, by omega, by omega, by omega, go⟩
  · refine ⟨p1, r1, 0, ks, i1, i2, by omega, by omega, hV, ?_, ?_⟩
    · intro ι PA K H hR hC hL h
      refine e_O_readDistanceSign_0 ⟨by omega, i5 ι _ _ hR (hL.2.2.1 2 (by omega) (by omega)) (hC.2.2 2 (by omega) (by omega)) (fun ι1 x1 x2 x3 F1 => ?_)⟩
      refine goC ι1 (ι1 1 2 3) K H (hC.fr (F1.wide fun t i j q => by omega)) rfl x3 ?_
      exact s_sign_bad (by rw [x1.2.2.1]; exact hr) (h ι1 x1 (fun e => absurd e hr) ((hL.ec hs).fr F1 (fun j => by omega)) (F1.wide fun t i j q => by omega))
    · intro ι PA en Q hR hM hL h hh
      exact e_M_goBack_0 (bif_t rfl (i6 ι _ _ hR (hL.2.2.1 2 (by omega) (by omega)) (hM.2.2.2.2.2.2 2 (by omega) (by omega)) (fun e => absurd e hr) (fun e ι1 x1 x2 F1 => hh e ι1 x1 x2 (hL.em.fr F1 (fun j => by omega)) (F1.wide fun t i j q => by omega))))
end Distance
