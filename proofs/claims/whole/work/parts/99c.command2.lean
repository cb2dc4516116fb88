/-! a command, whole; commands, one after the other -/
section Command2
variable {sc : bm_Sc} {β : Int → Int} {lim : Int} {W : bm_S} {tl s : Int} {f : Int → Int} {ks : Int → Int → Int} {rg PA : Int → Int} {pc wn en : Int} {g c : Int → Int}
/-- behind the literals -/
theorem j_tail (hw : wfβ β lim) (hO : HO W) (hCO : CO pc wn g c) (htl : tl = 0 ∨ tl = 1) (hs : 0 ≤ s ∧ s ≤ en) (hen : en ≤ 4096) (hV : LV W s f ks rg) {b : Int} (hB : PB PA pc b) (hb : b ≤ s + 1 ∧ (s = en → b ≤ s)) (x : Int) (hx : 2 ≤ x ∧ x ≤ 20000000) (cl : Int) (p : Int) (hp0 : 0 ≤ p) (hp1 : p ≤ lim) :
    ∃ (p' r s' : Int) (f' : Int → Int) (ks' : Int → Int → Int) (rg' PA' : Int → Int), p ≤ p' ∧ p' ≤ lim ∧ (r = 0 ∨ 0 < r ∧ r < 18) ∧ (r = 0 → s ≤ s' ∧ (s < en → s < s') ∧ s' ≤ en ∧ LV W s' f' ks' rg' ∧ PB PA' pc s') ∧
    (∀ (ι : bm_S) (K : bm_S → Prop) (H : Nat × Int → bm_S → Prop) (v1 v3 v4 v5 v7 v8 v9 : bm_V), cR ι β lim p 0 → HC ι tl W → CC ι pc wn en g c → LC ι W s f ks rg PA → (r = 0 → ∀ ι' : bm_S, cR ι' β lim p' 0 → LC ι' W s' f' ks' rg' PA' → Fr fLp ι ι' → K ι') → (r ≠ 0 → ∀ ι' : bm_S, cR ι' β lim p' r → EC ι' rg PA → Fr fLp ι ι' → K ι') → bW sc 87 196 [br 8 0, v1, bi cl, v3, v4, v5, bi x, v7, v8, v9] [] ι (bk0 K H)) ∧
    (∀ (ι : bm_S) (Q : bm_O → bm_S → Prop) (v1 v3 v5 v6 : bm_V) (n : Int), mR ι β lim p → HM ι W → CM ι pc wn g c → LM ι W s f ks rg PA → (r = 0 → ∀ ι' : bm_S, mR ι' β lim p' → LM ι' W s' f' ks' rg' PA' → Fr gLp ι ι' → bW sc 216 11 [br 13 0, v1, bi en, v3, bi cl, v5, v6, bi n, bi x, bi n] [] ι' Q) → (r ≠ 0 → ∀ ι' : bm_S, mR ι' β lim p' → ι' 12 0 6 = r → EM ι' rg PA → Fr gLp ι ι' → bq Q (12, 0) ι') → bW sc 216 145 [br 13 0, v1, bi en, v3, bi cl, v5, v6, bi n, bi x, bi n] [] ι Q) := by
  have hWa : ((Wa W : Nat) : Int) = 16 + W 5 0 1 + 48 * bm_p2 (W 5 0 0) := by
    have := p2_3 hO.2.1
    have := hO.2.2.1
    unfold Wa; omega
  by_cases c1 : s = en
  · refine ⟨p, 0, s, f, ks, rg, PA, by omega, hp1, by omega, fun _ => ⟨by omega, by omega, by omega, hV, hB.mono (hb.2 c1)⟩, ?_, ?_⟩
    · intro ι K H v1 v3 v4 v5 v7 v8 v9 hR hC hCC hL h hh
      refine e_O_makeCommand_196 (bif_t (by rw [hCC.2.2.1, hL.1]; omega) (h rfl ι hR hL (Fr.refl _ _)))
    · intro ι Q v1 v3 v5 v6 n hR hM hCM hL h hh
      exact e_M_readCoded_145 (bif_t (by omega) (bif_t (by rw [hL.1]; omega) (h rfl ι hR hL (Fr.refl _ _))))
  have hB1 : PB PA pc (s + 1) := hB.mono hb.1
  by_cases c2 : 2 ≤ cl
  · obtain ⟨p1, r1, sg, ks1, i1, i2, i3, i4, i5, i6, i7⟩ := j_backSign (sc := sc) (tl := tl) hw hO htl (s := s) (by omega) hV x hx p hp0 hp1
    obtain ⟨p2, r2, s', f', rg', PA', k1, k2, k3, k4, k5, k6, k7⟩ := j_go (sc := sc) (tl := tl) hw hO hCO (s := s) (by omega) hen i5 hB1 x hx sg i4 p1 r1 (by omega) i2 (by omega)
    refine ⟨p2, r2, s', f', ks1, rg', PA', by omega, k2, k3, fun e => ?_, ?_, ?_⟩
    · obtain ⟨a1, a2, a3, a4⟩ := k5 e
      exact ⟨by omega, fun _ => a1, a2, a3, a4⟩
    · intro ι K H v1 v3 v4 v5 v7 v8 v9 hR hC hCC hL h hh
      refine e_O_makeCommand_196 (bif_f (by rw [hCC.2.2.1, hL.1]; omega) (s_fine (fun _ => bif_f (by omega) (bif_t c2 ?_)) (fun e => absurd hR.2.2.1 e)))
      refine i6 ι PA _ _ hR hC hL (fun ι1 x1 x2 x3 F1 => ?_)
      exact k6 ι1 K H x1 (hC.fr F1) (hCC.fr F1) x2 x3 (fun e ι2 y1 y2 F2 => h e ι2 y1 y2 (F1.trans F2)) (fun e ι2 y1 y2 F2 => hh e ι2 y1 y2 (F1.trans F2))
    · intro ι Q v1 v3 v5 v6 n hR hM hCM hL h hh
      refine e_M_readCoded_145 (bif_t (by omega) (bif_f (by rw [hL.1]; omega) (bif_t c2 ?_)))
      by_cases hr : r1 = 0
      · refine i7 ι PA en _ hR hM hL (fun _ ι1 v5 x1 x2 F1 => ?_) (fun e => absurd hr e)
        exact k7 hr ι1 _ _ _ _ _ x1 (hM.fr hO F1) (hCM.fr F1) x2 (fun e ι2 y1 y2 F2 => h e ι2 y1 y2 (F1.trans F2)) (fun e ι2 y1 y2 y3 F2 => hh e ι2 y1 y2 y3 (F1.trans F2))
      · obtain ⟨hr2, hpp⟩ : r2 = r1 ∧ p2 = p1 := k4 hr
        exact i7 ι PA en _ hR hM hL (fun e => absurd e hr) (fun e ι1 x1 x2 x3 F1 => hh (by omega) ι1 (by rw [hpp]; exact x1) (by rw [hr2]; exact x2) x3 F1)
  · obtain ⟨p2, r2, s', f', rg', PA', k1, k2, k3, k4, k5, k6, k7⟩ := j_go (sc := sc) (tl := tl) hw hO hCO (s := s) (by omega) hen hV hB1 x hx 0 (by have := p2_3 hO.2.1; have := hO.2.2.1; omega) p 0 hp0 hp1 (by omega)
    refine ⟨p2, r2, s', f', ks, rg', PA', by omega, k2, k3, fun e => ?_, ?_, ?_⟩
    · obtain ⟨a1, a2, a3, a4⟩ := k5 e
      exact ⟨by omega, fun _ => a1, a2, a3, a4⟩
    · intro ι K H v1 v3 v4 v5 v7 v8 v9 hR hC hCC hL h hh
      refine e_O_makeCommand_196 (bif_f (by rw [hCC.2.2.1, hL.1]; omega) (s_fine (fun _ => bif_f (by omega) (bif_f c2 ?_)) (fun e => absurd hR.2.2.1 e)))
      exact k6 ι K H hR hC hCC (fun _ => hL) (hL.ec (by omega)) h hh
    · intro ι Q v1 v3 v5 v6 n hR hM hCM hL h hh
      refine e_M_readCoded_145 (bif_t (by omega) (bif_f (by rw [hL.1]; omega) (bif_f c2 ?_)))
      exact e_M_goBack_0 (bif_f (by omega) (k7 rfl ι _ _ _ _ _ hR hM hCM hL h hh))
/-- comp, and the other, behind the sign of a command -/
def cmB (sc : bm_Sc) (Q : bm_O → bm_S → Prop) (r3 : Int) (ι3 : bm_S) : Prop := (0 ≤ r3 ∧ 0 < (64 : Int)) ∧ (0 ≤ min (r3 / 64) 10 ∧ min (r3 / 64) 10 < (11 : Int)) ∧ (bm_rg (8 * bm_X sc 202 (min (r3 / 64) 10))) ∧ (0 ≤ r3 ∧ 0 < (8 : Int)) ∧ (0 ≤ r3 / 8 ∧ 0 < (8 : Int)) ∧ (bm_rg (8 * bm_X sc 202 (min (r3 / 64) 10) + r3 / 8 % 8)) ∧ (0 ≤ min (r3 / 64) 10 ∧ min (r3 / 64) 10 < (11 : Int)) ∧ (bm_rg (8 * bm_X sc 203 (min (r3 / 64) 10))) ∧ (0 ≤ r3 ∧ 0 < (8 : Int)) ∧ (bm_rg (8 * bm_X sc 203 (min (r3 / 64) 10) + r3 % 8)) ∧ (0 ≤ 8 * bm_X sc 202 (min (r3 / 64) 10) + r3 / 8 % 8 ∧ 8 * bm_X sc 202 (min (r3 / 64) 10) + r3 / 8 % 8 < (24 : Int)) ∧ (0 ≤ 8 * bm_X sc 202 (min (r3 / 64) 10) + r3 / 8 % 8 ∧ 8 * bm_X sc 202 (min (r3 / 64) 10) + r3 / 8 % 8 < (24 : Int)) ∧ bC sc 4 [br 0 0, bi (bm_X sc 207 (8 * bm_X sc 202 (min (r3 / 64) 10) + r3 / 8 % 8))] ι3 (bk1 (fun r4 ι4 => (bm_rg (bm_X sc 200 (8 * bm_X sc 202 (min (r3 / 64) 10) + r3 / 8 % 8) + r4)) ∧ (0 ≤ 8 * bm_X sc 203 (min (r3 / 64) 10) + r3 % 8 ∧ 8 * bm_X sc 203 (min (r3 / 64) 10) + r3 % 8 < (24 : Int)) ∧ (0 ≤ 8 * bm_X sc 203 (min (r3 / 64) 10) + r3 % 8 ∧ 8 * bm_X sc 203 (min (r3 / 64) 10) + r3 % 8 < (24 : Int)) ∧ bC sc 4 [br 0 0, bi (bm_X sc 208 (8 * bm_X sc 203 (min (r3 / 64) 10) + r3 % 8))] ι4 (bk1 (fun r5 ι5 => (bm_rg (bm_X sc 201 (8 * bm_X sc 203 (min (r3 / 64) 10) + r3 % 8) + r5)) ∧ bC sc 2 [br 0 0] ι5 (bk1 (fun r6 ι6 => (if r6 = (0 : Int) then Q (.inl none) ι6 else bC sc 79 [br 8 0, bi 9] ι6 (bk0 (fun ι7 => (bm_rg (ι7 8 0 14 - ι7 2 1 1)) ∧ (if bm_X sc 200 (8 * bm_X sc 202 (min (r3 / 64) 10) + r3 / 8 % 8) + r4 ≤ ι7 8 0 14 - ι7 2 1 1 then bW sc 87 169 [br 8 0, bi r3, bi (min (r3 / 64) 10), bi (8 * bm_X sc 202 (min (r3 / 64) 10) + r3 / 8 % 8), bi (8 * bm_X sc 203 (min (r3 / 64) 10) + r3 % 8), bi (bm_X sc 200 (8 * bm_X sc 202 (min (r3 / 64) 10) + r3 / 8 % 8) + r4), bi (bm_X sc 201 (8 * bm_X sc 203 (min (r3 / 64) 10) + r3 % 8) + r5), bi 0, bu, bu] [] ι7 Q else bC sc 3 [br 0 0, bi 8] ι7 (bk0 (fun ι8 => Q (.inl none) ι8) (bq Q)))) (bq Q)))) (bq Q))) (bq Q))) (bq Q))
def cmM (sc : bm_Sc) (Q : bm_O → bm_S → Prop) (v1 : bm_V) (x2 : Int) (r2 : Int) (ι2 : bm_S) : Prop := (0 ≤ r2 ∧ 0 < (64 : Int)) ∧ bC sc 204 [bi (r2 / 64)] ι2 (bk1 (fun r3 ι3 => (bm_rg (8 * r3)) ∧ (0 ≤ r2 ∧ 0 < (8 : Int)) ∧ (0 ≤ r2 / 8 ∧ 0 < (8 : Int)) ∧ (bm_rg (8 * r3 + r2 / 8 % 8)) ∧ bC sc 205 [bi (r2 / 64)] ι3 (bk1 (fun r4 ι4 => (bm_rg (8 * r4)) ∧ (0 ≤ r2 ∧ 0 < (8 : Int)) ∧ (bm_rg (8 * r4 + r2 % 8)) ∧ bC sc 202 [bi (8 * r3 + r2 / 8 % 8)] ι4 (bk1 (fun r5 ι5 => bC sc 200 [bi (8 * r3 + r2 / 8 % 8)] ι5 (bk1 (fun r6 ι6 => bC sc 174 [br 13 0, bi r6] ι6 (bk1 (fun r7 ι7 => (bm_rg (r5 + r7)) ∧ bC sc 203 [bi (8 * r4 + r2 % 8)] ι7 (bk1 (fun r8 ι8 => bC sc 201 [bi (8 * r4 + r2 % 8)] ι8 (bk1 (fun r9 ι9 => bC sc 174 [br 13 0, bi r9] ι9 (bk1 (fun r10 ι10 => (bm_rg (r8 + r10)) ∧ bC sc 186 [br 13 0, bi 9] ι10 (bk0 (fun ι11 => (bm_rg (x2 - ι11 13 0 6)) ∧ (if r5 + r7 ≤ x2 - ι11 13 0 6 then bW sc 216 145 [br 13 0, v1, bi x2, bi r2, bi (r2 / 64), bi (8 * r3 + r2 / 8 % 8), bi (8 * r4 + r2 % 8), bi (r5 + r7), bi (r8 + r10), bi 0] [] ι11 Q else bC sc 152 [br 13 0, bi 8] ι11 (bk0 (fun ι12 => bW sc 216 145 [br 13 0, v1, bi x2, bi r2, bi (r2 / 64), bi (8 * r3 + r2 / 8 % 8), bi (8 * r4 + r2 % 8), bi (r5 + r7), bi (r8 + r10), bi 0] [] ι12 Q) (bq Q)))) (bq Q))) (bq Q))) (bq Q))) (bq Q))) (bq Q))) (bq Q))) (bq Q))) (bq Q))) (bq Q))
theorem j_cmd (hw : wfβ β lim) (v p r0 : Int) (hv : 0 ≤ v ∧ v < 704) (hp0 : 0 ≤ p) (hp1 : p ≤ lim) (hr0 : r0 = 0 ∨ 0 < r0 ∧ r0 < 18) :
    ∃ (p' r n x k1 k2 : Int), p ≤ p' ∧ p' ≤ lim ∧ (r0 ≠ 0 → r = r0 ∧ p' = p) ∧ (r = 0 ∨ 0 < r ∧ r < 18) ∧ (0 ≤ n ∧ n ≤ 20000000) ∧ (2 ≤ x ∧ x ≤ 20000000) ∧
    (∀ (ι : bm_S) (Q : bm_O → bm_S → Prop), cR ι β lim p r0 → (r ≠ 0 → ∀ ι' : bm_S, cR ι' β lim p' r → Fr fR ι ι' → Q (.inl none) ι') → (r = 0 → ∀ ι' : bm_S, cR ι' β lim p' 0 → Fr fR ι ι' → bC sc 79 [br 8 0, bi 9] ι' (bk0 (fun ι7 => (bm_rg (ι7 8 0 14 - ι7 2 1 1)) ∧ (if n ≤ ι7 8 0 14 - ι7 2 1 1 then bW sc 87 169 [br 8 0, bi v, bi (v / 64), bi k1, bi k2, bi n, bi x, bi 0, bu, bu] [] ι7 Q else bC sc 3 [br 0 0, bi 8] ι7 (bk0 (fun ι8 => Q (.inl none) ι8) (bq Q)))) (bq Q))) → cmB sc Q v ι) ∧
    (r0 = 0 → ∀ (ι : bm_S) (Q : bm_O → bm_S → Prop) (v1 : bm_V) (en : Int), mR ι β lim p → (r = 0 → ∀ ι' : bm_S, mR ι' β lim p' → Fr gR ι ι' → bC sc 186 [br 13 0, bi 9] ι' (bk0 (fun ι11 => (bm_rg (en - ι11 13 0 6)) ∧ (if n ≤ en - ι11 13 0 6 then bW sc 216 145 [br 13 0, v1, bi en, bi v, bi (v / 64), bi k1, bi k2, bi n, bi x, bi 0] [] ι11 Q else bC sc 152 [br 13 0, bi 8] ι11 (bk0 (fun ι12 => bW sc 216 145 [br 13 0, v1, bi en, bi v, bi (v / 64), bi k1, bi k2, bi n, bi x, bi 0] [] ι12 Q) (bq Q)))) (bq Q))) → (r ≠ 0 → ∀ ι' : bm_S, mR ι' β lim p' → ι' 12 0 6 = r → Fr gR ι ι' → bq Q (12, 0) ι') → cmM sc Q v1 en v ι) := by
  have h8 := i8_b (k := v / 64) (by omega)
  have e64 : min (v / 64) 10 = v / 64 := by omega
  obtain ⟨k1, ek1⟩ : ∃ k1, k1 = 8 * i8 (v / 64) + v / 8 % 8 := ⟨_, rfl⟩
  obtain ⟨k2, ek2⟩ : ∃ k2, k2 = 8 * y8 (v / 64) + v % 8 := ⟨_, rfl⟩
  have b1 := ib_rg (k := k1) (by omega)
  have b2 := ib_rg (k := k2) (by omega)
  have q1 := p2_le 24 b1.1.1.2 16777216 rfl
  have q2 := p2_le 24 b2.1.2.2.1.2 16777216 rfl
  obtain ⟨p3, r3, v3, j1, j2, j3, j4, j5, j6, j7, j8⟩ := jx_number (sc := sc) hw (ib k1) b1.1.1 p r0 hp0 hp1
  obtain ⟨p4, r4, v4, t1, t2, t3', t4, t5, t6, t7, t8⟩ := jx_number (sc := sc) hw (yb k2) b2.1.2.2.1 p3 r3 (by omega) j2
  have hr3 : r3 = 0 ∨ 0 < r3 ∧ r3 < 18 := by
    by_cases e : r0 = 0
    · have := j4 e; omega
    · have := j3 e; omega
  have hr4 : r4 = 0 ∨ 0 < r4 ∧ r4 < 18 := by
    by_cases e : r3 = 0
    · have := t4 e; omega
    · have := t3' e; omega
  refine ⟨p4, r4, ia k1 + v3, ya k2 + v4, k1, k2, by omega, t2, fun e => ?_, hr4, by omega, by omega, ?_, ?_⟩
  · obtain ⟨a1, a2⟩ := j3 e
    obtain ⟨a3, a4⟩ := t3' (by omega)
    exact ⟨by omega, by omega⟩
  · intro ι Q hR h1 h2
    unfold cmB
    rw [e64, X202, X203, ← ek1, ← ek2, X207, X208, X200, X201]
    refine ⟨by omega, by omega, by omega, by omega, by omega, by omega, by omega, by omega, by omega, by omega, by omega, by omega, ?_⟩
    refine j7 ι _ _ hR (fun ι1 x1 F1 => ⟨by omega, by omega, by omega, ?_⟩)
    refine t7 ι1 _ _ x1 (fun ι2 x2 F2 => ⟨by omega, ?_⟩)
    refine s_fine (fun e => bif_f (by omega) ?_) (fun e => bif_t rfl (h1 (by rw [x2.2.2.1] at e; exact e) ι2 x2 (F1.trans F2)))
    rw [x2.2.2.1] at e
    rw [e] at x2
    exact h2 e ι2 x2 (F1.trans F2)
  · intro e ι Q v1 en hR h hh
    unfold cmM
    refine ⟨by omega, m_insertEight (by omega) ⟨by omega, by omega, by omega, by omega, m_copyEight (by omega) ⟨by omega, by omega, by omega, ?_⟩⟩⟩
    rw [← ek1, ← ek2]
    refine m_insertBase (by omega) (m_insertBits (by omega) (j8 e ι _ _ hR (fun e3 ι1 x1 F1 => ⟨by omega, m_copyBase (by omega) (m_copyBits (by omega) (t8 e3 ι1 _ _ x1 (fun e4 ι2 x2 F2 => ⟨by omega, h e4 ι2 x2 (F1.trans F2)⟩) (fun e4 ι2 x2 y2 F2 => hh e4 ι2 x2 y2 (F1.trans F2))))⟩) (fun e3 ι1 x1 y1 F1 => ?_)))
    obtain ⟨a3, a4⟩ := t3' e3
    exact hh (by omega) ι1 (by rw [a4]; exact x1) (by rw [a3]; exact y1) F1
/-- a command -/
theorem j_command (hw : wfβ β lim) (hO : HO W) (hCO : CO pc wn g c) (htl : tl = 0 ∨ tl = 1) (hs : 0 ≤ s ∧ s < en) (hen : en ≤ 4096) (hV : LV W s f ks rg) (hB : PB PA pc s) (p : Int) (hp0 : 0 ≤ p) (hp1 : p ≤ lim) :
    ∃ (p' r s' : Int) (f' : Int → Int) (ks' : Int → Int → Int) (rg' PA' : Int → Int), p ≤ p' ∧ p' ≤ lim ∧ (r = 0 ∨ 0 < r ∧ r < 18) ∧ (r = 0 → s < s' ∧ s' ≤ en ∧ LV W s' f' ks' rg' ∧ PB PA' pc s') ∧ (∀ i, 0 ≤ i → i < 4 → 1 ≤ rg' i ∧ rg' i ≤ 4096) ∧
    (∀ (ι : bm_S) (K : bm_S → Prop) (H : Nat × Int → bm_S → Prop), cR ι β lim p 0 → HC ι tl W → CC ι pc wn en g c → LC ι W s f ks rg PA → (r = 0 → ∀ ι' : bm_S, cR ι' β lim p' 0 → LC ι' W s' f' ks' rg' PA' → Fr fLp ι ι' → K ι') → (r ≠ 0 → ∀ ι' : bm_S, cR ι' β lim p' r → EC ι' rg' PA' → Fr fLp ι ι' → K ι') → bC sc 87 [br 8 0] ι (bk0 K H)) ∧
    (∀ (ι : bm_S) (Q : bm_O → bm_S → Prop) (v1 v3 v4 v5 v6 v7 v8 v9 : bm_V), mR ι β lim p → HM ι W → CM ι pc wn g c → LM ι W s f ks rg PA → (r = 0 → ∀ (ι' : bm_S) (u3 u4 u5 u6 u7 u8 u9 : bm_V), mR ι' β lim p' → LM ι' W s' f' ks' rg' PA' → Fr gLp ι ι' → bW sc 216 11 [br 13 0, v1, bi en, u3, u4, u5, u6, u7, u8, u9] [] ι' Q) → (r ≠ 0 → ∀ ι' : bm_S, mR ι' β lim p' → ι' 12 0 6 = r → EM ι' rg' PA' → Fr gLp ι ι' → bq Q (12, 0) ι') → bW sc 216 11 [br 13 0, v1, bi en, v3, v4, v5, v6, v7, v8, v9] [] ι Q) := by
  have hO1 := hO.1 1 (by omega) (by omega)
  have hC1 := hO.2.2.2.2.2.2.2.2.2.1
  obtain ⟨p1, r1, k', b', l', i1, i2, i3, i4, i5, i6⟩ := j_takeOne (sc := sc) hw 1 (by omega) (hV.2.1 1 (by omega) (by omega)) hO1.2 p hp0 hp1
  have hVt := KW.take (q := 1) hV.2.1 i4
  have hk := i4.2.1
  have hk2 := i4.1
  -- the sign, of which nothing is known but its range
  have key : ∀ (Q : bm_O → bm_S → Prop) (ι1 : bm_S) (k : Int), HC ι1 tl W → ι1 1 1 3 = k → 0 ≤ k ∧ k < 12 → ∀ N : Int → bm_S → Prop, bC sc 5 [br 0 0, br 3 (36 * tl + 3 * k + 1)] ι1 (bk1 N (bq Q)) → ((0 : Int) = 0) ∧ (0 ≤ (1 : Int) ∧ (1 : Int) < 3) ∧ bC sc 67 [br 7 (ι1 8 0 4), bi 1, bi (ι1 1 1 3)] ι1 (bk3 (fun r2 ι2 => bC sc 5 [br 0 0, br 3 r2] ι2 (bk1 N (bq Q))) (bq Q)) := by
    intro Q ι1 k hC e hk N h
    rw [e, hC.1]
    refine ⟨rfl, by omega, e_L_code_0 (bif_f (by omega) (bif_t rfl ⟨⟨by omega, by omega, by omega⟩, ?_⟩))⟩
    rw [show min (max k 0) 11 = k by omega]
    exact ⟨rfl, h⟩
  -- behind the sign v, read with the rule r2 broken
  have fin : ∀ (v p2 r2 : Int), 0 ≤ v ∧ v < 704 → p1 ≤ p2 → p2 ≤ lim → (r2 = 0 ∨ 0 < r2 ∧ r2 < 18) → ∃ (p' r s' : Int) (f' : Int → Int) (ks' : Int → Int → Int) (rg' PA' : Int → Int), p2 ≤ p' ∧ p' ≤ lim ∧ (r = 0 ∨ 0 < r ∧ r < 18) ∧ (r2 ≠ 0 → r = r2 ∧ p' = p2 ∧ rg' = rg ∧ PA' = PA) ∧ (r = 0 → s < s' ∧ s' ≤ en ∧ LV W s' f' ks' rg' ∧ PB PA' pc s') ∧ (∀ i, 0 ≤ i → i < 4 → 1 ≤ rg' i ∧ rg' i ≤ 4096) ∧
      (∀ (ι : bm_S) (K : bm_S → Prop) (H : Nat × Int → bm_S → Prop), cR ι β lim p2 r2 → HC ι tl W → CC ι pc wn en g c → EC ι rg PA → (r2 = 0 → LC ι W s f (sel ks 1 (t3 k' b' l')) rg PA) → (r = 0 → ∀ ι' : bm_S, cR ι' β lim p' 0 → LC ι' W s' f' ks' rg' PA' → Fr fLp ι ι' → K ι') → (r ≠ 0 → ∀ ι' : bm_S, cR ι' β lim p' r → EC ι' rg' PA' → Fr fLp ι ι' → K ι') → cmB sc (bk0 K H) v ι) ∧
      (r2 = 0 → ∀ (ι : bm_S) (Q : bm_O → bm_S → Prop) (v1 : bm_V), mR ι β lim p2 → HM ι W → CM ι pc wn g c → LM ι W s f (sel ks 1 (t3 k' b' l')) rg PA → (r = 0 → ∀ (ι' : bm_S) (u3 u4 u5 u6 u7 u8 u9 : bm_V), mR ι' β lim p' → LM ι' W s' f' ks' rg' PA' → Fr gLp ι ι' → bW sc 216 11 [br 13 0, v1, bi en, u3, u4, u5, u6, u7, u8, u9] [] ι' Q) → (r ≠ 0 → ∀ ι' : bm_S, mR ι' β lim p' → ι' 12 0 6 = r → EM ι' rg' PA' → Fr gLp ι ι' → bq Q (12, 0) ι') → cmM sc Q v1 en v ι) := by
    intro v p2 r2 hv hp2 hp2l hr2
    obtain ⟨p4, r4, n, x, k1, k2, j1, j2, j3, j4, j5, j6, j7, j8⟩ := j_cmd (sc := sc) hw v p2 r2 hv (by omega) hp2l hr2
    by_cases hr4 : r4 = 0
    · have hr20 : r2 = 0 := by
        by_cases e : r2 = 0
        · exact e
        · have := j3 e; omega
      subst hr4
      have hB9 : PB (ntp PA pc 9) pc (s + 1) := hB.more
      by_cases hn : n ≤ en - s
      · obtain ⟨p5, r5, f5, ks5, l1, l2, l3, l4, l5, l6⟩ := j_literals (sc := sc) (tl := tl) (rg := rg) hw hO htl (n := n) (by omega) n.toNat 0 s f (sel ks 1 (t3 k' b' l')) p4 (by omega) (by omega) hs.1 (by omega) ⟨hV.1, hVt, hV.2.2⟩ (by omega) j2
        have en1 : s + (n.toNat : Int) = s + n := by omega
        rw [en1] at l4
        by_cases hr5 : r5 = 0
        · obtain ⟨p6, r6, s', f', ks', rg', PA', z1, z2, z3, z4, z5, z6⟩ := j_tail (sc := sc) (tl := tl) hw hO hCO htl (s := s + n) (by omega) hen l4 hB9 (by omega) x j6 (v / 64) p5 (by omega) l2
          refine ⟨p6, r6, s', f', ks', if r6 = 0 then rg' else rg, if r6 = 0 then PA' else ntp PA pc 9, by omega, z2, z3, fun e => absurd hr20 e, fun e => ?_, ?_, ?_, ?_⟩
          · obtain ⟨a1, a2, a3, a4, a5⟩ := z4 e
            rw [if_pos e, if_pos e]
            refine ⟨?_, a3, a4, a5⟩
            by_cases q : s + n < en
            · have := a2 q; omega
            · omega
          · by_cases e : r6 = 0
            · rw [if_pos e]; exact (z4 e).2.2.2.1.2.2
            · rw [if_neg e]; exact hV.2.2
          · intro ι K H hR hC hCC hE hL h hh
            refine j7 ι _ hR (fun e => absurd rfl e) (fun _ ι1 x1 F1 => ?_)
            have F1' : Fr fLp ι ι1 := F1.wide fun t i j q => by omega
            have L1 := (hL hr20).fr F1
            have C1 := hCC.fr F1'
            refine s_more (by omega) C1.1 hCO.1 hB (by omega) x1 L1 (fun ι2 x2 L2 F2 => ?_)
            have C2 := C1.fr F2
            rw [C2.2.2.1, L2.1]
            refine ⟨by omega, bif_t hn ?_⟩
            refine l5 ι2 _ _ _ _ _ _ _ _ _ x2 ((hC.fr F1').fr F2) L2 (fun _ ι3 x3 L3 F3 => ?_) (fun e => absurd hr5 e)
            rw [en1] at L3
            have FF := (F1'.trans F2).trans F3
            exact z5 ι3 _ _ _ _ _ _ _ _ _ x3 (hC.fr FF) (hCC.fr FF) L3 (fun e ι4 x4 L4 F4 => h e ι4 x4 (by rw [if_pos e, if_pos e]; exact L4) (FF.trans F4)) (fun e ι4 x4 L4 F4 => hh e ι4 x4 (by rw [if_neg e, if_neg e]; exact L4) (FF.trans F4))
          · intro _ ι Q v1 hR hM hCM hL h hh
            refine j8 hr20 ι Q v1 en hR (fun _ ι1 x1 F1 => ?_) (fun e => absurd rfl e)
            have F1' : Fr gLp ι ι1 := F1.wide fun t i j q => by omega
            have L1 := hL.fr F1
            have C1 := hCM.fr F1'
            refine m_more (by omega) C1.1 hB (by omega) x1 L1 (fun ι2 x2 L2 F2 => ?_)
            rw [L2.1]
            refine ⟨by omega, bif_t hn ?_⟩
            refine l6 ι2 _ _ _ _ _ _ _ _ _ x2 ((hM.fr hO F1').fr hO F2) L2 (fun _ ι3 x3 L3 F3 => ?_) (fun e => absurd hr5 e)
            rw [en1] at L3
            have FF := (F1'.trans F2).trans F3
            exact z6 ι3 _ _ _ _ _ _ x3 (hM.fr hO FF) (hCM.fr FF) L3 (fun e ι4 x4 L4 F4 => h e ι4 _ _ _ _ _ _ _ x4 (by rw [if_pos e, if_pos e]; exact L4) (FF.trans F4)) (fun e ι4 x4 y4 L4 F4 => hh e ι4 x4 y4 (by rw [if_neg e, if_neg e]; exact L4) (FF.trans F4))
        · refine ⟨p5, r5, s, f, ks, rg, ntp PA pc 9, by omega, l2, l3, fun e => absurd hr20 e, fun e => absurd e hr5, hV.2.2, ?_, ?_⟩
          · intro ι K H hR hC hCC hE hL h hh
            refine j7 ι _ hR (fun e => absurd rfl e) (fun _ ι1 x1 F1 => ?_)
            have F1' : Fr fLp ι ι1 := F1.wide fun t i j q => by omega
            have L1 := (hL hr20).fr F1
            have C1 := hCC.fr F1'
            refine s_more (by omega) C1.1 hCO.1 hB (by omega) x1 L1 (fun ι2 x2 L2 F2 => ?_)
            have C2 := C1.fr F2
            rw [C2.2.2.1, L2.1]
            refine ⟨by omega, bif_t hn ?_⟩
            exact l5 ι2 _ _ _ _ _ _ _ _ _ x2 ((hC.fr F1').fr F2) L2 (fun e => absurd e hr5) (fun e ι3 x3 L3 F3 => hh e ι3 x3 L3 ((F1'.trans F2).trans F3))
          · intro _ ι Q v1 hR hM hCM hL h hh
            refine j8 hr20 ι Q v1 en hR (fun _ ι1 x1 F1 => ?_) (fun e => absurd rfl e)
            have F1' : Fr gLp ι ι1 := F1.wide fun t i j q => by omega
            have L1 := hL.fr F1
            have C1 := hCM.fr F1'
            refine m_more (by omega) C1.1 hB (by omega) x1 L1 (fun ι2 x2 L2 F2 => ?_)
            rw [L2.1]
            refine ⟨by omega, bif_t hn ?_⟩
            exact l6 ι2 _ _ _ _ _ _ _ _ _ x2 ((hM.fr hO F1').fr hO F2) L2 (fun e => absurd e hr5) (fun e ι3 x3 y3 L3 F3 => hh e ι3 x3 y3 L3 ((F1'.trans F2).trans F3))
      · refine ⟨p4, 8, s, f, ks, rg, ntp PA pc 9, by omega, j2, by omega, fun e => absurd hr20 e, fun e => by omega, hV.2.2, ?_, ?_⟩
        · intro ι K H hR hC hCC hE hL h hh
          refine j7 ι _ hR (fun e => absurd rfl e) (fun _ ι1 x1 F1 => ?_)
          have F1' : Fr fLp ι ι1 := F1.wide fun t i j q => by omega
          have L1 := (hL hr20).fr F1
          have C1 := hCC.fr F1'
          refine s_more (by omega) C1.1 hCO.1 hB (by omega) x1 L1 (fun ι2 x2 L2 F2 => ?_)
          have C2 := C1.fr F2
          rw [C2.2.2.1, L2.1]
          have F3 : Fr fR ι2 (up ι2 0 0 3 8) := (Fr.refl _ _).u (by omega)
          exact ⟨by omega, bif_f hn (s_broken (fun _ => hh (by omega) _ (x2.fr F3 (fun j => by omega) (by simp (disch := omega) only [up_s, up_k, up_j, up_i]; exact x2.1) (by simp (disch := omega) only [up_s, up_k, up_j, up_i])) ((L2.ec (by omega)).fr F3 (fun j => by omega)) ((F1'.trans F2).trans (F3.wide fun t i j q => by omega))) (fun e => absurd x2.2.2.1 e))⟩
        · intro _ ι Q v1 hR hM hCM hL h hh
          refine j8 hr20 ι Q v1 en hR (fun _ ι1 x1 F1 => ?_) (fun e => absurd rfl e)
          have F1' : Fr gLp ι ι1 := F1.wide fun t i j q => by omega
          have L1 := hL.fr F1
          have C1 := hCM.fr F1'
          refine m_more (by omega) C1.1 hB (by omega) x1 L1 (fun ι2 x2 L2 F2 => ?_)
          rw [L2.1]
          have F3 : Fr gR ι2 (up ι2 12 0 6 8) := (Fr.refl _ _).u (by omega)
          exact ⟨by omega, bif_f hn (m_fail (hh (by omega) _ (x2.fr F3 (fun j => by omega) (by simp (disch := omega) only [up_s, up_k, up_j, up_i]; exact x2.1)) (by simp (disch := omega) only [up_s, up_k, up_j, up_i]) (L2.em.fr F3 (fun j => by omega)) ((F1'.trans F2).trans (F3.wide fun t i j q => by omega))))⟩
    · refine ⟨p4, r4, s, f, ks, rg, PA, j1, j2, j4, fun e => ⟨(j3 e).1, (j3 e).2, rfl, rfl⟩, fun e => absurd e hr4, hV.2.2, ?_, ?_⟩
      · intro ι K H hR hC hCC hE hL h hh
        exact j7 ι _ hR (fun e ι1 x1 F1 => hh e ι1 x1 (hE.fr F1 (fun j => by omega)) (F1.wide fun t i j q => by omega)) (fun e => absurd e hr4)
      · intro e ι Q v1 hR hM hCM hL h hh
        exact j8 e ι Q v1 en hR (fun e => absurd e hr4) (fun e ι1 x1 y1 F1 => hh e ι1 x1 y1 (hL.em.fr F1 (fun j => by omega)) (F1.wide fun t i j q => by omega))
  by_cases hr : r1 = 0
  · obtain ⟨p2, r2, v, j1, j2, j3, j4, j5, j6⟩ := j_signT (sc := sc) (a := 704) (L := W 11 k') (lone := W 9 1 k') hw (by omega) (hC1 k' hk.1 hk.2).1 p1 (by omega) i2
    obtain ⟨p', r, s', f', ks', rg', PA', t1, t2, t3', t4, t5, t6, t7, t8⟩ := fin (if r2 = 0 then v else 0) p2 r2 (by split <;> omega) j1 j2 (by omega)
    refine ⟨p', r, s', f', ks', rg', PA', by omega, t2, t3', t5, t6, ?_, ?_⟩
    · intro ι K H hR hC hCC hL h hh
      refine e_O_makeCommand_0 ⟨by omega, i5 ι _ _ hR (hL.2.2.1 1 (by omega) (by omega)) (hC.2.2 1 (by omega) (by omega)) (fun ι1 x1 x2 x3 F1 => ?_)⟩
      have F1' : Fr fLp ι ι1 := F1.wide fun t i j q => by omega
      have L1 := hL.take (by omega) F1 (x2 hr)
      have H1 := hC.fr F1'
      rw [hr] at x1
      refine key _ ι1 k' H1 (x2 hr).2.1 (by omega) _ ?_
      refine j5 ι1 _ _ _ (by rw [L22 (by omega), if_neg (by omega), if_pos (by omega)]; omega) x1 (H1.2.1.2.2.2.2.2.2.2.2.2.1 k' hk.1 hk.2) (fun ι2 y1 F2 => ?_)
      have F2' : Fr fLp ι ι2 := F1'.trans (F2.wide fun t i j q => by omega)
      have L2 := L1.fr F2
      exact t7 ι2 K H y1 (hC.fr F2') (hCC.fr F2') (L2.ec (by omega)) (fun _ => L2) (fun e ι3 z1 z2 F3 => h e ι3 z1 z2 (F2'.trans F3)) (fun e ι3 z1 z2 F3 => hh e ι3 z1 z2 (F2'.trans F3))
    · intro ι Q v1 v3 v4 v5 v6 v7 v8 v9 hR hM hCM hL h hh
      refine e_M_readCoded_11 (bif_f (by rw [hL.1]; omega) (i6 ι _ _ hR (hL.2.2.1 1 (by omega) (by omega)) (hM.2.2.2.2.2.2 1 (by omega) (by omega)) (fun _ ι1 x1 x2 F1 => ?_) (fun e => absurd hr e)))
      have F1' : Fr gLp ι ι1 := F1.wide fun t i j q => by omega
      have L1 := hL.take (by omega) F1 x2
      have H1 := hM.fr hO F1'
      rw [x2.2.1]
      refine ⟨by omega, by omega, by omega, ?_⟩
      refine j6 ι1 _ _ _ (by omega) (by omega) x1 (H1.2.2.2.2.2.1.2.1 k' hk.1 hk.2) (fun e ι2 y1 F2 => ?_) (fun e ι2 y1 y2 F2 => ?_)
      · have F2' : Fr gLp ι ι2 := F1'.trans (F2.wide fun t i j q => by omega)
        have := t8 e ι2 Q v1 y1 (hM.fr hO F2') (hCM.fr F2') (L1.fr F2) (fun e ι3 u3 u4 u5 u6 u7 u8 u9 z1 z2 F3 => h e ι3 u3 u4 u5 u6 u7 u8 u9 z1 z2 (F2'.trans F3)) (fun e ι3 z1 z2 z3 F3 => hh e ι3 z1 z2 z3 (F2'.trans F3))
        rw [if_pos e] at this
        exact this
      · obtain ⟨a1, a2, a3, a4⟩ := t4 (by omega)
        exact hh (by omega) ι2 (by rw [a2]; exact y1) (by omega) (by rw [a3, a4]; exact (L1.fr F2).em) (F1'.trans (F2.wide fun t i j q => by omega))
  · obtain ⟨p', r, s', f', ks', rg', PA', t1, t2, t3', t4, t5, t6, t7, t8⟩ := fin 0 p1 r1 (by omega) (by omega) i2 (by omega)
    obtain ⟨a1, a2, a3, a4⟩ := t4 hr
    refine ⟨p', r, s', f', ks', rg', PA', by omega, t2, t3', t5, t6, ?_, ?_⟩
    · intro ι K H hR hC hCC hL h hh
      refine e_O_makeCommand_0 ⟨by omega, i5 ι _ _ hR (hL.2.2.1 1 (by omega) (by omega)) (hC.2.2 1 (by omega) (by omega)) (fun ι1 x1 x2 x3 F1 => ?_)⟩
      have F1' : Fr fLp ι ι1 := F1.wide fun t i j q => by omega
      refine key _ ι1 (ι1 1 1 3) (hC.fr F1') rfl x3 _ (s_sign_bad (by rw [x1.2.2.1]; exact hr) ?_)
      exact t7 ι1 K H x1 (hC.fr F1') (hCC.fr F1') ((hL.ec (by omega)).fr F1 (fun j => by omega)) (fun e => absurd e hr) (fun e ι3 z1 z2 F3 => h e ι3 z1 z2 (F1'.trans F3)) (fun e ι3 z1 z2 F3 => hh e ι3 z1 z2 (F1'.trans F3))
    · intro ι Q v1 v3 v4 v5 v6 v7 v8 v9 hR hM hCM hL h hh
      exact e_M_readCoded_11 (bif_f (by rw [hL.1]; omega) (i6 ι _ _ hR (hL.2.2.1 1 (by omega) (by omega)) (hM.2.2.2.2.2.2 1 (by omega) (by omega)) (fun e => absurd e hr) (fun e ι1 x1 y1 F1 => hh (by omega) ι1 (by rw [a2]; exact x1) (by omega) (by rw [a3, a4]; exact hL.em.fr F1 (fun j => by omega)) (F1.wide fun t i j q => by omega))))
/-- commands up to the end of a part -/
theorem j_commands (hw : wfβ β lim) (hO : HO W) (hCO : CO pc wn g c) (htl : tl = 0 ∨ tl = 1) (hen : en ≤ 3000) {v1 : bm_V} {x1 : Int} : ∀ (m : Nat) (s : Int) (f : Int → Int) (ks : Int → Int → Int) (rg PA : Int → Int) (p : Int), en - s ≤ m → 0 ≤ s → s ≤ en → LV W s f ks rg → PB PA pc s → 0 ≤ p → p ≤ lim →
    ∃ (p' r s' : Int) (f' : Int → Int) (rg' PA' : Int → Int), p ≤ p' ∧ p' ≤ lim ∧ (r = 0 ∨ 0 < r ∧ r < 18) ∧ (r = 0 → s' = en ∧ ∀ k, 0 ≤ k → k < s' → -128 ≤ f' k ∧ f' k < 128) ∧ (∀ i, 0 ≤ i → i < 4 → 1 ≤ rg' i ∧ rg' i ≤ 4096) ∧
    (∀ (ι : bm_S) (Q : bm_O → bm_S → Prop) (i : Int), cR ι β lim p 0 → HC ι tl W → CC ι pc wn en g c → LC ι W s f ks rg PA → 0 ≤ i → i ≤ s → (∀ (ι' : bm_S) (i' : Int), cR ι' β lim p' r → (r = 0 → ι' 2 1 1 = en ∧ ∀ k, 0 ≤ k → k < en → ι' 20 1 k = f' k) → EC ι' rg' PA' → Fr fLp ι ι' → bm_rg (x1 + 1) ∧ bW sc 69 10 [br 8 0, bi (x1 + 1), bi i'] [] ι' Q) → bW sc 69 77 [br 8 0, bi x1, bi i] [] ι Q) ∧
    (∀ (ι : bm_S) (Q : bm_O → bm_S → Prop) (v3 v4 v5 v6 v7 v8 v9 : bm_V), mR ι β lim p → HM ι W → CM ι pc wn g c → LM ι W s f ks rg PA → (r = 0 → ∀ ι' : bm_S, mR ι' β lim p' → ι' 13 0 6 = en → (∀ k, 0 ≤ k → k < en → ι' 67 0 k = f' k) → EM ι' rg' PA' → Fr gLp ι ι' → Q (.inl none) ι') → (r ≠ 0 → ∀ ι' : bm_S, mR ι' β lim p' → ι' 12 0 6 = r → EM ι' rg' PA' → Fr gLp ι ι' → bq Q (12, 0) ι') → bW sc 216 11 [br 13 0, v1, bi en, v3, v4, v5, v6, v7, v8, v9] [] ι Q) := by
  intro m
  induction m with
  | zero =>
    intro s f ks rg PA p hm hs0 hs1 hV hB hp0 hp1
    have hse : s = en := by omega
    refine ⟨p, 0, en, f, rg, PA, by omega, hp1, by omega, fun _ => ⟨rfl, by rw [← hse]; exact hV.1⟩, hV.2.2, ?_, ?_⟩
    · intro ι Q i hR hC hCC hL hi0 hi1 h
      have hK := h ι i hR (fun _ => ⟨by rw [hL.1]; exact hse, by rw [← hse]; exact hL.2.1⟩) (hL.ec (by omega)) (Fr.refl _ _)
      exact e_O_openAll_77 (bif_i (fun _ => hK) (fun _ => bif_t (by rw [hCC.2.2.1, hL.1]; omega) hK))
    · intro ι Q v3 v4 v5 v6 v7 v8 v9 hR hM hCM hL h hh
      exact e_M_readCoded_11 (bif_t (by rw [hL.1]; omega) (h rfl ι hR (by rw [hL.1]; exact hse) (by rw [← hse]; exact hL.2.1) hL.em (Fr.refl _ _)))
  | succ m ih =>
    intro s f ks rg PA p hm hs0 hs1 hV hB hp0 hp1
    by_cases hse : s = en
    · refine ⟨p, 0, en, f, rg, PA, by omega, hp1, by omega, fun _ => ⟨rfl, by rw [← hse]; exact hV.1⟩, hV.2.2, ?_, ?_⟩
      · intro ι Q i hR hC hCC hL hi0 hi1 h
        have hK := h ι i hR (fun _ => ⟨by rw [hL.1]; exact hse, by rw [← hse]; exact hL.2.1⟩) (hL.ec (by omega)) (Fr.refl _ _)
        exact e_O_openAll_77 (bif_i (fun _ => hK) (fun _ => bif_t (by rw [hCC.2.2.1, hL.1]; omega) hK))
      · intro ι Q v3 v4 v5 v6 v7 v8 v9 hR hM hCM hL h hh
        exact e_M_readCoded_11 (bif_t (by rw [hL.1]; omega) (h rfl ι hR (by rw [hL.1]; exact hse) (by rw [← hse]; exact hL.2.1) hL.em (Fr.refl _ _)))
    · obtain ⟨p1, r1, s1, f1, ks1, rg1, PA1, i1, i2, i3, i4, i5, i6, i7⟩ := j_command (sc := sc) (tl := tl) (en := en) hw hO hCO htl (s := s) (by omega) (by omega) hV hB p hp0 hp1
      by_cases hr : r1 = 0
      · obtain ⟨a1, a2, a3, a4⟩ := i4 hr
        obtain ⟨p2, r2, s2, f2, rg2, PA2, k1, k2, k3, k4, k5, k6, k7⟩ := ih s1 f1 ks1 rg1 PA1 p1 (by omega) (by omega) a2 a3 a4 (by omega) i2
        refine ⟨p2, r2, s2, f2, rg2, PA2, by omega, k2, k3, k4, k5, ?_, ?_⟩
        · intro ι Q i hR hC hCC hL hi0 hi1 h
          refine e_O_openAll_77 (bif_f (by omega) (bif_f (by rw [hCC.2.2.1, hL.1]; omega) (s_fine (fun _ => bif_f (by omega) ?_) (fun e => absurd hR.2.2.1 e))))
          refine i6 ι _ _ hR hC hCC hL (fun _ ι1 x1 L1 F1 => ⟨by omega, ?_⟩) (fun e => absurd hr e)
          exact k6 ι1 Q (i + 1) x1 (hC.fr F1) (hCC.fr F1) L1 (by omega) (by omega) (fun ι2 i' y1 y2 y3 F2 => h ι2 i' y1 y2 y3 (F1.trans F2))
        · intro ι Q v3 v4 v5 v6 v7 v8 v9 hR hM hCM hL h hh
          refine i7 ι Q v1 v3 v4 v5 v6 v7 v8 v9 hR hM hCM hL (fun _ ι1 u3 u4 u5 u6 u7 u8 u9 x1 L1 F1 => ?_) (fun e => absurd hr e)
          exact k7 ι1 Q u3 u4 u5 u6 u7 u8 u9 x1 (hM.fr hO F1) (hCM.fr F1) L1 (fun e ι2 y1 y2 y3 y4 F2 => h e ι2 y1 y2 y3 y4 (F1.trans F2)) (fun e ι2 y1 y2 y3 F2 => hh e ι2 y1 y2 y3 (F1.trans F2))
      · refine ⟨p1, r1, s, f, rg1, PA1, i1, i2, i3, fun e => absurd e hr, i5, ?_, ?_⟩
        · intro ι Q i hR hC hCC hL hi0 hi1 h
          refine e_O_openAll_77 (bif_f (by omega) (bif_f (by rw [hCC.2.2.1, hL.1]; omega) (s_fine (fun _ => bif_f (by omega) ?_) (fun e => absurd hR.2.2.1 e))))
          refine i6 ι _ _ hR hC hCC hL (fun e => absurd e hr) (fun e ι1 x1 E1 F1 => ⟨by omega, ?_⟩)
          have hK := fun i' => h ι1 i' x1 (fun e => absurd e hr) E1 F1
          exact e_O_openAll_77 (bif_i (fun _ => hK _) (fun _ => bif_i (fun _ => hK _) (fun _ => s_fine (fun e => absurd (x1.2.2.1.symm.trans e) hr) (fun _ => bif_t rfl (hK _)))))
        · intro ι Q v3 v4 v5 v6 v7 v8 v9 hR hM hCM hL h hh
          exact i7 ι Q v1 v3 v4 v5 v6 v7 v8 v9 hR hM hCM hL (fun e => absurd e hr) (fun e ι1 x1 y1 E1 F1 => hh e ι1 x1 y1 E1 F1)
end Command2
