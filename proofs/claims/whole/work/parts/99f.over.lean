/-! a raw part; a part that is passed over -/
section Over
variable {sc : bm_Sc} {β : Int → Int} {lim : Int} {s n pc : Int} {f PA : Int → Int}
theorem nm_8 {q x : Int} (h : ∀ k : Int, 0 ≤ k → k < 8 → β (8 * q + k) = x / bm_p2 k % 2) : nm β (8 * q) 8 = x % 256 := by
  have e : nm β (8 * q) 8 = 0 + β (8 * q + 0) * 1 + β (8 * q + 1) * 2 + β (8 * q + 2) * 4 + β (8 * q + 3) * 8 + β (8 * q + 4) * 16 + β (8 * q + 5) * 32 + β (8 * q + 6) * 64 + β (8 * q + 7) * 128 := rfl
  have c0 : bm_p2 0 = 1 := rfl
  have c1 : bm_p2 1 = 2 := rfl
  have c2 : bm_p2 2 = 4 := rfl
  have c3 : bm_p2 3 = 8 := rfl
  have c4 : bm_p2 4 = 16 := rfl
  have c5 : bm_p2 5 = 32 := rfl
  have c6 : bm_p2 6 = 64 := rfl
  have c7 : bm_p2 7 = 128 := rfl
  rw [e, h 0 (by omega) (by omega), h 1 (by omega) (by omega), h 2 (by omega) (by omega), h 3 (by omega) (by omega), h 4 (by omega) (by omega), h 5 (by omega) (by omega), h 6 (by omega) (by omega), h 7 (by omega) (by omega), c0, c1, c2, c3, c4, c5, c6, c7]
  omega
/-- the bytes of a raw part -/
def rwf (β : Int → Int) (f : Int → Int) (s q : Int) : Int → Int := fun k => if k < s then f k else bm_byte (nm β (8 * (q + (k - s))) 8)
abbrev fRw (t : Nat) (i j : Int) : Prop := fR t i j ∨ (t = 2 ∨ t = 20) ∧ i = 1
abbrev gRw (t : Nat) (i j : Int) : Prop := gR t i j ∨ t = 67 ∨ t = 13 ∧ j = 6
theorem s_raw23 {K : bm_S → Prop} {H : Nat × Int → bm_S → Prop} {q p r : Int} (hs : 0 ≤ s) (hn : s + n ≤ 4096) (hq : 0 ≤ q) (hl : 8 * (q + n) ≤ lim) (hl2 : lim ≤ 19200) : ∀ (m : Nat) (i : Int) (ι : bm_S), i = n - m → 0 ≤ i → cR ι β lim p r → 8 * ι 2 0 1 = lim → ι 2 1 1 = s + i → (∀ k, 0 ≤ k → k < s + i → ι 20 1 k = rwf β f s q k) → (∀ ι' : bm_S, cR ι' β lim p r → ι' 2 1 1 = s + n → (∀ k, 0 ≤ k → k < s + n → ι' 20 1 k = rwf β f s q k) → Fr fRw ι ι' → K ι') → bW sc 8 23 [br 0 0, br 2 1, bi n, bi q, bi i] [] ι (bk0 K H)
  | 0, i, ι, hi, h0, hR, ht, a1, a2, h => e_R_copyTo_23 (bif_t (by omega) (h ι hR (by omega) (by rw [show s + n = s + i by omega]; exact a2) (Fr.refl _ _)))
  | m + 1, i, ι, hi, h0, hR, ht, a1, a2, h => by
    refine e_R_copyTo_23 (bif_f (by omega) ⟨by omega, s_at (Or.inl rfl) (by rw [L20_0]; omega) ?_⟩)
    rw [if_neg (by omega)]
    have e8 : nm β (8 * (q + i)) 8 = ι 20 0 (q + i) % 256 := nm_8 (fun k k0 k1 => by
      rw [← hR.2.2.2 (8 * (q + i) + k) (by omega) (by omega)]
      unfold bt
      rw [show (8 * (q + i) + k) / 8 = q + i by omega, show (8 * (q + i) + k) % 8 = k by omega])
    rw [← e8]
    refine s_add (b := ι 2 1 2) (f := rwf β f s q) (s := s + i) (Or.inr rfl) ⟨a1, rfl, a2⟩ (by rw [L20_1]; omega) (fun ι1 hB hF => ⟨by omega, ?_⟩)
    have F1 : Fr fRw ι ι1 := hF.fr.wide fun t i j q => Or.inr q
    refine s_raw23 hs hn hq hl hl2 m (i + 1) ι1 (by omega) (by omega) (hR.fr hF.fr (fun j => by omega) (by rw [hF.fr 0 0 1 (by omega)]; exact hR.1) (by rw [hF.fr 0 0 3 (by omega)]; exact hR.2.2.1)) (by rw [hF.fr 2 0 1 (by omega)]; exact ht) (by rw [hB.1]; omega) (fun k x y => ?_) (fun ι2 y1 y2 y3 F2 => h ι2 y1 y2 y3 (F1.trans F2))
    rw [hB.2.2 k x (by omega)]
    unfold fs
    by_cases c : k = s + i
    · rw [if_pos c]; unfold rwf; rw [if_neg (by omega), c, show s + i - s = i by omega]
    · rw [if_neg c]
theorem m_raw70 {Q : bm_O → bm_S → Prop} {q p0 : Int} {v1 v3 : bm_V} (hw : wfβ β lim) (hs : 0 ≤ s) (hn : s + n ≤ 4096) (hq : 0 ≤ q) (hp : p0 = 8 * q) : ∀ (m : Nat) (i : Int) (ι : bm_S), i = n - m → 0 ≤ i → 8 * (q + i) ≤ lim → mR ι β lim (8 * (q + i)) → ι 13 0 6 = s + i → (∀ k, 0 ≤ k → k < s + i → ι 67 0 k = rwf β f s q k) → (8 * (q + n) ≤ lim → ∀ ι' : bm_S, mR ι' β lim (8 * (q + n)) → ι' 13 0 6 = s + n → (∀ k, 0 ≤ k → k < s + n → ι' 67 0 k = rwf β f s q k) → Fr gRw ι ι' → Q (.inl none) ι') → (lim < 8 * (q + n) → ∀ ι' : bm_S, mR ι' β lim lim → ι' 12 0 6 = 1 → Fr gRw ι ι' → bq Q (12, 0) ι') → bW sc 223 70 [br 13 0, v1, bi n, v3, bi i] [] ι Q
  | 0, i, ι, hi, h0, hl, hR, a1, a2, h, hh => e_M_readPart_70 (bif_t (by omega) (h (by omega) ι (by rw [show q + n = q + i by omega]; exact hR) (by omega) (by rw [show s + n = s + i by omega]; exact a2) (Fr.refl _ _)))
  | m + 1, i, ι, hi, h0, hl, hR, a1, a2, h, hh => by
    have hw2 := hw.2.2
    refine e_M_readPart_70 (bif_f (by omega) ?_)
    by_cases c : 8 * (q + i) + 8 ≤ lim
    · refine m_number hw (by omega) (by omega) hR (e_M_putOut_0 ?_)
      rw [up_j (by omega), a1, by_by]
      have F0 : Fr gRw ι (up (up (up ι 13 0 16 (8 * (q + i) + 8)) 67 0 (s + i) (bm_byte (nm β (8 * (q + i)) (Int.toNat 8)))) 13 0 6 (s + i + 1)) := (((Fr.refl _ _).u (by omega)).u (by omega)).u (by omega)
      refine ⟨by omega, by omega, ⟨by omega, ?_⟩⟩
      refine m_raw70 hw hs hn hq hp m (i + 1) _ (by omega) (by omega) (by omega) ?_ (by simp (disch := omega) only [up_s, up_k, up_j, up_i]; omega) (fun k x y => ?_) (fun e ι2 y1 y2 y3 F2 => h e ι2 y1 y2 y3 (F0.trans F2)) (fun e ι2 y1 y2 F2 => hh e ι2 y1 y2 (F0.trans F2))
      · exact hR.fr F0 (fun j => by omega) (by simp (disch := omega) only [up_s, up_k, up_j, up_i]; omega)
      · rw [up_k (by decide), up_at]
        by_cases c : k = s + i
        · rw [if_pos c]
          unfold rwf
          rw [if_neg (by omega), c, show s + i - s = i by omega]
          rfl
        · rw [if_neg c, up_k (by decide)]; exact a2 k x (by omega)
    · have hpl : 8 * (q + i) = lim := by omega
      rw [hpl] at hR
      have F0 : Fr gRw ι (up (up ι 13 0 16 lim) 12 0 6 1) := ((Fr.refl _ _).u (by omega)).u (by omega)
      exact m_number_end hw (by omega) (by omega) hR (hh (by omega) _ (hR.fr F0 (fun j => by omega) (by simp (disch := omega) only [up_s, up_k, up_j, up_i])) (by simp (disch := omega) only [up_s, up_k, up_j, up_i]) F0)
/-- a raw part -/
theorem j_raw (hw : wfβ β lim) (hs : 0 ≤ s) (hn : 1 ≤ n ∧ s + n ≤ 3000) (hf : ∀ k, 0 ≤ k → k < s → -128 ≤ f k ∧ f k < 128) (p : Int) (hp0 : 0 ≤ p) (hp1 : p ≤ lim) :
    ∃ (p' r : Int) (f' : Int → Int), p ≤ p' ∧ p' ≤ lim ∧ (r = 0 ∨ 0 < r ∧ r < 18) ∧ (∀ k, 0 ≤ k → k < s + n → -128 ≤ f' k ∧ f' k < 128) ∧
    (∀ (ι : bm_S) (K : bm_S → Prop) (H : Nat × Int → bm_S → Prop), cR ι β lim p 0 → 8 * ι 2 0 1 = lim → ι 2 1 1 = s → (∀ k, 0 ≤ k → k < s → ι 20 1 k = f k) → (∀ ι' : bm_S, cR ι' β lim p' r → (r = 0 → ι' 2 1 1 = s + n ∧ ∀ k, 0 ≤ k → k < s + n → ι' 20 1 k = f' k) → (0 ≤ ι' 2 1 1 ∧ ι' 2 1 1 ≤ 4096) → Fr fRw ι ι' → K ι') → bC sc 6 [br 0 0] ι (bk0 (fun ι9 => bC sc 8 [br 0 0, br 2 1, bi n] ι9 (bk0 K H)) H)) ∧
    (∀ (ι : bm_S) (Q : bm_O → bm_S → Prop) (v1 v3 : bm_V), mR ι β lim p → ι 13 0 6 = s → (∀ k, 0 ≤ k → k < s → ι 67 0 k = f k) → (r = 0 → ∀ ι' : bm_S, mR ι' β lim p' → ι' 13 0 6 = s + n → (∀ k, 0 ≤ k → k < s + n → ι' 67 0 k = f' k) → Fr gRw ι ι' → Q (.inl none) ι') → (r ≠ 0 → ∀ ι' : bm_S, mR ι' β lim p' → ι' 12 0 6 = r → Fr gRw ι ι' → bq Q (12, 0) ι') → bC sc 175 [br 13 0] ι (bk0 (fun ι5 => bW sc 223 70 [br 13 0, v1, bi n, v3, bi 0] [] ι5 Q) (bq Q))) := by
  have hl := hw.2.2
  obtain ⟨p1, r1, i1, i2, i3, i4, i5, i6⟩ := j_toByte (sc := sc) hw p hp0 hp1
  obtain ⟨q, hq⟩ : ∃ q, p1 = 8 * q := ⟨p1 / 8, by omega⟩
  have hV : ∀ k, 0 ≤ k → k < s + n → -128 ≤ rwf β f s q k ∧ rwf β f s q k < 128 := fun k x y => by
    unfold rwf
    by_cases c : k < s
    · rw [if_pos c]; exact hf k x c
    · rw [if_neg c]; exact by_rg _
  have e0 : s + 0 = s := by omega
  have rw0 : ∀ k, 0 ≤ k → k < s → rwf β f s q k = f k := fun k x y => by unfold rwf; rw [if_pos y]
  by_cases hr : r1 = 0
  · by_cases c : 8 * (q + n) ≤ lim
    · refine ⟨8 * (q + n), 0, rwf β f s q, by omega, c, by omega, hV, ?_, ?_⟩
      · intro ι K H hR ht a1 a2 h
        refine i5 ι _ _ hR (fun ι1 x1 F1 => ?_)
        rw [hr] at x1
        have F2 : Fr fR ι1 (up ι1 0 0 1 (p1 + 8 * n)) := (Fr.refl _ _).u (by omega)
        have F12 : Fr fRw ι (up ι1 0 0 1 (p1 + 8 * n)) := (F1.trans F2).wide fun t i j q => Or.inl q
        refine e_R_copyTo_0 ⟨by omega, s_skip hw (by omega) i3 (by omega) x1 (fun _ => ?_) (fun q => by omega)⟩
        rw [x1.1]
        refine bif_t (by simp (disch := omega) only [up_s, up_k, up_j, up_i]; exact x1.2.2.1) ?_
        rw [show p1 / 8 = q by omega]
        refine s_raw23 (f := f) hs (by omega) (by omega) c hl.1 n.toNat 0 _ (by omega) (by omega) (p := p1 + 8 * n) (r := 0) x1.to (by simp (disch := omega) only [up_s, up_k, up_j, up_i]; rw [F1 2 0 1 (by omega)]; exact ht) (by simp (disch := omega) only [up_s, up_k, up_j, up_i]; rw [F1 2 1 1 (by omega), e0]; exact a1) (fun k x y => by simp (disch := omega) only [up_s, up_k, up_j, up_i]; rw [F1 20 1 k (by omega), rw0 k x (by omega)]; exact a2 k x (by omega)) (fun ι2 y1 y2 y3 F3 => h ι2 (by rw [show 8 * (q + n) = p1 + 8 * n by omega]; exact y1) (fun _ => ⟨y2, y3⟩) (by omega) (F12.trans F3))
      · intro ι Q v1 v3 hR a1 a2 h hh
        refine i6 ι _ _ hR (fun _ ι1 x1 F1 => ?_) (fun e => absurd hr e)
        have F1' : Fr gRw ι ι1 := F1.wide fun t i j q => Or.inl q
        refine m_raw70 (f := f) hw hs (by omega) (by omega) hq n.toNat 0 ι1 (by omega) (by omega) (by omega) (by rw [show 8 * (q + 0) = p1 by omega]; exact x1) (by rw [F1 13 0 6 (by omega), e0]; exact a1) (fun k x y => by rw [F1 67 0 k (by omega), rw0 k x (by omega)]; exact a2 k x (by omega)) (fun _ ι2 y1 y2 y3 F3 => h rfl ι2 y1 y2 y3 (F1'.trans F3)) (fun e => by omega)
    · refine ⟨lim, 1, rwf β f s q, by omega, by omega, by omega, hV, ?_, ?_⟩
      · intro ι K H hR ht a1 a2 h
        refine i5 ι _ _ hR (fun ι1 x1 F1 => ?_)
        rw [hr] at x1
        have F2 : Fr fR ι1 (up (up ι1 0 0 1 lim) 0 0 3 1) := ((Fr.refl _ _).u (by omega)).u (by omega)
        have F12 : Fr fRw ι (up (up ι1 0 0 1 lim) 0 0 3 1) := (F1.trans F2).wide fun t i j q => Or.inl q
        refine e_R_copyTo_0 ⟨by omega, s_skip hw (by omega) i3 (by omega) x1 (fun q => by omega) (fun _ => ?_)⟩
        refine bif_f (by simp (disch := omega) only [up_s, up_k, up_j, up_i]; omega) (h _ (x1.fr F2 (fun j => by omega) (by simp (disch := omega) only [up_s, up_k, up_j, up_i]) (by simp (disch := omega) only [up_s, up_k, up_j, up_i])) (fun e => by omega) ?_ F12)
        rw [(F1.trans F2) 2 1 1 (by omega), a1]
        omega
      · intro ι Q v1 v3 hR a1 a2 h hh
        refine i6 ι _ _ hR (fun _ ι1 x1 F1 => ?_) (fun e => absurd hr e)
        have F1' : Fr gRw ι ι1 := F1.wide fun t i j q => Or.inl q
        refine m_raw70 (f := f) hw hs (by omega) (by omega) hq n.toNat 0 ι1 (by omega) (by omega) (by omega) (by rw [show 8 * (q + 0) = p1 by omega]; exact x1) (by rw [F1 13 0 6 (by omega), e0]; exact a1) (fun k x y => by rw [F1 67 0 k (by omega), rw0 k x (by omega)]; exact a2 k x (by omega)) (fun e => by omega) (fun _ ι2 y1 y2 F3 => hh (by omega) ι2 y1 y2 (F1'.trans F3))
  · refine ⟨p1, r1, rwf β f s q, i1, i2, by omega, hV, ?_, ?_⟩
    · intro ι K H hR ht a1 a2 h
      refine i5 ι _ _ hR (fun ι1 x1 F1 => ?_)
      have hne : ι1 0 0 3 ≠ 0 := by rw [x1.2.2.1]; exact hr
      refine e_R_copyTo_0 ⟨by omega, s_skip_err hne (bif_f hne (h ι1 x1 (fun e => absurd e hr) ?_ (F1.wide fun t i j q => Or.inl q)))⟩
      rw [F1 2 1 1 (by omega), a1]; omega
    · intro ι Q v1 v3 hR a1 a2 h hh
      exact i6 ι _ _ hR (fun e => absurd e hr) (fun e ι1 x1 y1 F1 => hh e ι1 x1 y1 (F1.wide fun t i j q => Or.inl q))
/-- passing over: behind the numbers -/
def mOv (sc : bm_Sc) (Q : bm_O → bm_S → Prop) (z : Int) (ι : bm_S) : Prop := bC sc 185 [br 13 0, bi 1, bi z] ι (bk0 (fun ι3 => bC sc 175 [br 13 0] ι3 (bk0 (fun ι4 => (0 ≤ ι4 13 0 16 ∧ 0 < (8 : Int)) ∧ (bm_rg (ι4 13 0 15 - ι4 13 0 16 / 8)) ∧ (if z ≤ ι4 13 0 15 - ι4 13 0 16 / 8 then (bm_rg (8 * z)) ∧ (bm_rg (ι4 13 0 16 + 8 * z)) ∧ Q (.inl none) (up ι4 13 0 16 (ι4 13 0 16 + 8 * z)) else (bm_rg (8 * ι4 13 0 15)) ∧ bC sc 152 [br 13 0, bi 1] (up ι4 13 0 16 (8 * ι4 13 0 15)) (bk0 (fun ι5 => (bm_rg (8 * z)) ∧ (bm_rg (ι5 13 0 16 + 8 * z)) ∧ Q (.inl none) (up ι5 13 0 16 (ι5 13 0 16 + 8 * z))) (bq Q)))) (bq Q))) (bq Q))
abbrev fOv (t : Nat) (i j : Int) : Prop := fR t i j ∨ t = 52
abbrev gOv (t : Nat) (i j : Int) : Prop := gR t i j ∨ t = 76
/-- passing over: once its numbers are read -/
theorem j_over2 (hw : wfβ β lim) (hpc : 0 ≤ pc) (h1z : 1 ≤ pc ∧ pc ≤ 60 → PA (12 * (pc - 1) + 1) = 0) (x y : Int) (hx : 0 ≤ x) (hy : 0 ≤ y ∧ y < 16777216) (p : Int) (hp0 : 0 ≤ p) (hp1 : p ≤ lim) :
    ∃ (p' r : Int) (PA' : Int → Int), p ≤ p' ∧ p' ≤ lim ∧ (r = 0 ∨ 0 < r ∧ r < 18) ∧
    (∀ (ι : bm_S) (K : bm_S → Prop) (H : Nat × Int → bm_S → Prop) (v1 : bm_V), cR ι β lim p 0 → ι 8 0 3 = pc → PaC ι PA → (∀ ι' : bm_S, cR ι' β lim p' r → PaC ι' PA' → Fr fOv ι ι' → K ι') → bW sc 76 84 [br 8 0, v1, bi x, bi y] [] ι (bk0 K H)) ∧
    (∀ (ι : bm_S) (Q : bm_O → bm_S → Prop), mR ι β lim p → ι 13 0 19 = pc → PaM ι PA → (r = 0 → ∀ ι' : bm_S, mR ι' β lim p' → PaM ι' PA' → Fr gOv ι ι' → Q (.inl none) ι') → (r ≠ 0 → ∀ ι' : bm_S, mR ι' β lim p' → ι' 12 0 6 = r → PaM ι' PA' → Fr gOv ι ι' → bq Q (12, 0) ι') → mOv sc Q (if x ≤ 0 then 0 else y + 1) ι) := by
  have hl := hw.2.2
  obtain ⟨z, hz⟩ : ∃ z, z = (if x ≤ 0 then 0 else y + 1) := ⟨_, rfl⟩
  have hz0 : 0 ≤ z ∧ z ≤ 16777216 := by rw [hz]; split <;> omega
  obtain ⟨p1, r1, i1, i2, i3, i4, i5, i6⟩ := j_toByte (sc := sc) hw p hp0 hp1
  -- comp up to the whole byte
  have goC : ∀ (ι : bm_S) (K : bm_S → Prop) (H : Nat × Int → bm_S → Prop) (v1 : bm_V), cR ι β lim p 0 → ι 8 0 3 = pc → PaC ι PA → (∀ ι' : bm_S, cR ι' β lim p1 r1 → PaC ι' (nt PA pc 1 z) → Fr fOv ι ι' → if x ≤ 0 then K ι' else bC sc 7 [br 0 0, bi z] ι' (bk0 K H)) → bW sc 76 84 [br 8 0, v1, bi x, bi y] [] ι (bk0 K H) := by
    intro ι K H v1 hR h3 hP h
    by_cases c : x ≤ 0
    · rw [if_pos c] at hz
      refine e_O_passOver_84 (bif_t c (i5 ι _ _ hR (fun ι1 x1 F1 => ?_)))
      have h := h ι1 x1 (fun j a b => by rw [F1 52 0 j (by omega), hP j a b, hz, nt_same (fun q1 q2 => h1z ⟨q1, q2⟩)]) (F1.wide fun t i j q => Or.inl q)
      rw [if_pos c] at h
      exact bif_t c h
    · rw [if_neg c] at hz
      refine e_O_passOver_84 (bif_f c (s_fine (fun _ => bif_f (by omega) ⟨by omega, ?_⟩) (fun e => absurd hR.2.2.1 e)))
      refine s_note (pc := pc) (by omega) h3 hpc (fun ι1 a1 F1 => ?_)
      refine i5 ι1 _ _ (hR.fr F1 (fun j => by omega) (by rw [F1 0 0 1 (by omega)]; exact hR.1) (by rw [F1 0 0 3 (by omega)]; exact hR.2.2.1)) (fun ι2 x2 F2 => bif_f c ⟨by omega, ?_⟩)
      have h := h ι2 x2 (fun j a b => by rw [F2 52 0 j (by omega), a1 j, hz]; exact nt_ext hpc (by omega) hP j a b) ((F1.wide fun t i j q => Or.inr q).trans (F2.wide fun t i j q => Or.inl q))
      rw [if_neg c, hz] at h
      exact h
  have goM : ∀ (ι : bm_S) (K : bm_S → Prop) (H : Nat × Int → bm_S → Prop), mR ι β lim p → ι 13 0 19 = pc → PaM ι PA → (r1 = 0 → ∀ ι' : bm_S, mR ι' β lim p1 → PaM ι' (nt PA pc 1 z) → Fr gOv ι ι' → K ι') → (r1 ≠ 0 → ∀ ι' : bm_S, mR ι' β lim p1 → ι' 12 0 6 = r1 → PaM ι' (nt PA pc 1 z) → Fr gOv ι ι' → H (12, 0) ι') → bC sc 185 [br 13 0, bi 1, bi z] ι (bk0 (fun ι3 => bC sc 175 [br 13 0] ι3 (bk0 K H)) H) := by
    intro ι K H hR h19 hP h hh
    refine m_tell (pc := pc) (by omega) h19 hpc (fun ι1 a1 F1 => ?_)
    have P1 : PaM ι1 (nt PA pc 1 z) := fun j a b => by rw [a1 j]; exact nt_ext hpc (by omega) hP j a b
    have F1' : Fr gOv ι ι1 := F1.wide fun t i j q => Or.inr q
    exact i6 ι1 _ _ (hR.fr F1 (fun j => by omega) (by rw [F1 13 0 16 (by omega)]; exact hR.1)) (fun e ι2 x2 F2 => h e ι2 x2 (P1.fr F2 (fun j => by omega)) (F1'.trans (F2.wide fun t i j q => Or.inl q))) (fun e ι2 x2 y2 F2 => hh e ι2 x2 y2 (P1.fr F2 (fun j => by omega)) (F1'.trans (F2.wide fun t i j q => Or.inl q)))
  rw [← hz]
  by_cases hr : r1 = 0
  · subst hr
    by_cases c1 : p1 + 8 * z ≤ lim
    · refine ⟨p1 + 8 * z, 0, nt PA pc 1 z, by omega, c1, by omega, ?_, ?_⟩
      · intro ι K H v1 hR h3 hP h
        refine goC ι K H v1 hR h3 hP (fun ι1 x1 P1 F1 => bif_i (fun c => ?_) (fun c => ?_))
        · have : z = 0 := by rw [hz, if_pos c]
          exact h ι1 (by rw [show p1 + 8 * z = p1 by omega]; exact x1) P1 F1
        · have F2 : Fr fR ι1 (up ι1 0 0 1 (p1 + 8 * z)) := (Fr.refl _ _).u (by omega)
          exact s_skip hw (by omega) i3 (by omega) x1 (fun _ => h _ x1.to (P1.fr F2 (fun j => by omega)) (F1.trans (F2.wide fun t i j q => Or.inl q))) (fun q => by omega)
      · intro ι Q hR h19 hP h hh
        refine goM ι _ _ hR h19 hP (fun _ ι1 x1 P1 F1 => ?_) (fun e => absurd rfl e)
        have hm2 := x1.2.1
        rw [x1.1]
        have F2 : Fr gR ι1 (up ι1 13 0 16 (p1 + 8 * z)) := (Fr.refl _ _).u (by omega)
        exact ⟨by omega, by omega, bif_t (by omega) ⟨by omega, by omega, h rfl _ x1.to (P1.fr F2 (fun j => by omega)) (F1.trans (F2.wide fun t i j q => Or.inl q))⟩⟩
    · refine ⟨lim, 1, nt PA pc 1 z, by omega, by omega, by omega, ?_, ?_⟩
      · intro ι K H v1 hR h3 hP h
        refine goC ι K H v1 hR h3 hP (fun ι1 x1 P1 F1 => bif_i (fun c => ?_) (fun c => ?_))
        · have : z = 0 := by rw [hz, if_pos c]
          omega
        · have F2 : Fr fR ι1 (up (up ι1 0 0 1 lim) 0 0 3 1) := ((Fr.refl _ _).u (by omega)).u (by omega)
          exact s_skip hw (by omega) i3 (by omega) x1 (fun q => by omega) (fun _ => h _ (x1.fr F2 (fun j => by omega) (by simp (disch := omega) only [up_s, up_k, up_j, up_i]) (by simp (disch := omega) only [up_s, up_k, up_j, up_i])) (P1.fr F2 (fun j => by omega)) (F1.trans (F2.wide fun t i j q => Or.inl q)))
      · intro ι Q hR h19 hP h hh
        refine goM ι _ _ hR h19 hP (fun _ ι1 x1 P1 F1 => ?_) (fun e => absurd rfl e)
        have hm2 := x1.2.1
        rw [x1.1]
        have F2 : Fr gR ι1 (up (up ι1 13 0 16 (8 * ι1 13 0 15)) 12 0 6 1) := ((Fr.refl _ _).u (by omega)).u (by omega)
        exact ⟨by omega, by omega, bif_f (by omega) ⟨by omega, m_fail (hh (by omega) _ (x1.fr F2 (fun j => by omega) (by simp (disch := omega) only [up_s, up_k, up_j, up_i]; exact hm2)) (by simp (disch := omega) only [up_s, up_k, up_j, up_i]) (P1.fr F2 (fun j => by omega)) (F1.trans (F2.wide fun t i j q => Or.inl q)))⟩⟩
  · refine ⟨p1, r1, nt PA pc 1 z, i1, i2, by omega, ?_, ?_⟩
    · intro ι K H v1 hR h3 hP h
      exact goC ι K H v1 hR h3 hP (fun ι1 x1 P1 F1 => bif_i (fun c => h ι1 x1 P1 F1) (fun c => s_skip_err (by rw [x1.2.2.1]; exact hr) (h ι1 x1 P1 F1)))
    · intro ι Q hR h19 hP h hh
      exact goM ι _ _ hR h19 hP (fun e => absurd e hr) (fun e ι1 x1 y1 P1 F1 => hh e ι1 x1 y1 P1 F1)
theorem s_over84_err {ι : bm_S} {K : bm_S → Prop} {H : Nat × Int → bm_S → Prop} {v1 : bm_V} {x y : Int} (hp : bm_rg (-ι 0 0 1)) (hy : 0 ≤ y ∧ y < 16777216) (hr : ι 0 0 3 ≠ 0) (h : K ι) : bW sc 76 84 [br 8 0, v1, bi x, bi y] [] ι (bk0 K H) := by
  have go : bC sc 6 [br 0 0] ι (bk0 (fun ι1 => (if x ≤ (0 : Int) then K ι1 else (bm_rg (y + 1)) ∧ bC sc 7 [br 0 0, bi (y + 1)] ι1 (bk0 K H))) H) := s_toByte_err hp hr (bif_i (fun _ => h) (fun _ => ⟨by omega, s_skip_err hr h⟩))
  exact e_O_passOver_84 (bif_i (fun c => go) (fun c => s_fine (fun e => absurd e hr) (fun _ => bif_t rfl go)))
/-- passing over, behind the new part -/
theorem j_over (hw : wfβ β lim) (hpc : 0 ≤ pc) (h1z : 1 ≤ pc ∧ pc ≤ 60 → PA (12 * (pc - 1) + 1) = 0) (p : Int) (hp0 : 0 ≤ p) (hp1 : p ≤ lim) :
    ∃ (p' r : Int) (PA' : Int → Int), p ≤ p' ∧ p' ≤ lim ∧ (r = 0 ∨ 0 < r ∧ r < 18) ∧
    (∀ (ι : bm_S) (K : bm_S → Prop) (H : Nat × Int → bm_S → Prop) (v1 : bm_V), cR ι β lim p 0 → ι 8 0 3 = pc → PaC ι PA → (∀ ι' : bm_S, cR ι' β lim p' r → PaC ι' PA' → Fr fOv ι ι' → K ι') → bC sc 4 [br 0 0, bi 1] ι (bk1 (fun r2 ι2 => (if r2 = (1 : Int) then bC sc 3 [br 0 0, bi 4] ι2 (bk0 (fun ι3 => bW sc 76 39 [br 8 0, v1, bu, bu] [] ι3 (bk0 K H)) H) else bW sc 76 39 [br 8 0, v1, bu, bu] [] ι2 (bk0 K H))) H)) ∧
    (∀ (ι : bm_S) (Q : bm_O → bm_S → Prop) (v1 v2 v3 v4 : bm_V), mR ι β lim p → ι 13 0 19 = pc → PaM ι PA → (r = 0 → ∀ ι' : bm_S, mR ι' β lim p' → PaM ι' PA' → Fr gOv ι ι' → Q (.inl none) ι') → (r ≠ 0 → ∀ ι' : bm_S, mR ι' β lim p' → ι' 12 0 6 = r → PaM ι' PA' → Fr gOv ι ι' → bq Q (12, 0) ι') → bC sc 173 [br 13 0] ι (bk1 (fun r2 ι2 => (if r2 = (1 : Int) then bC sc 152 [br 13 0, bi 4] ι2 (bk0 (fun ι3 => bW sc 220 28 [br 13 0, v1, v2, v3, v4] [] ι3 Q) (bq Q)) else bW sc 220 28 [br 13 0, v1, v2, v3, v4] [] ι2 Q)) (bq Q))) := by
  have hl := hw.2.2
  obtain ⟨p1, r1, v, i1, i2, i3, i4, i5, i6, i7, i8⟩ := jx_bit (sc := sc) hw p 0 hp0 hp1
  obtain ⟨r2, hr2⟩ : ∃ r2, r2 = (if r1 ≠ 0 then r1 else if v = 1 then 4 else 0) := ⟨_, rfl⟩
  have hr2' : r2 = 0 ∨ 0 < r2 ∧ r2 < 18 := by have := i4 rfl; grind
  obtain ⟨p3, r3, x, j1, j2, j3, j4, j5, j6, j7, j8⟩ := jx_number (sc := sc) hw 2 (by omega) p1 r2 (by omega) i2
  have e4 : bm_p2 2 = 4 := rfl
  rw [e4] at j6
  obtain ⟨p4, r4, y, k1, k2, k3, k4, k5, k6, k7, k8⟩ := jx_number (sc := sc) hw (8 * x) (by omega) p3 r3 (by omega) j2
  have hy : y < 16777216 := by have := p2_le (k := 8 * x) 24 (by omega) 16777216 rfl; omega
  have hr3' : r3 = 0 ∨ 0 < r3 ∧ r3 < 18 := by
    by_cases e : r2 = 0
    · have := j4 e; omega
    · have := j3 e; omega
  have hr4' : r4 = 0 ∨ 0 < r4 ∧ r4 < 18 := by
    by_cases e : r3 = 0
    · have := k4 e; omega
    · have := k3 e; omega
  obtain ⟨r5, hr5⟩ : ∃ r5, r5 = (if r4 ≠ 0 then r4 else if 1 < x ∧ y / bm_p2 (8 * (x - 1)) = 0 then 5 else 0) := ⟨_, rfl⟩
  have hr5' : r5 = 0 ∨ 0 < r5 ∧ r5 < 18 := by grind
  -- comp up to 84
  have goC : ∀ (ι : bm_S) (Q : bm_O → bm_S → Prop) (v1 : bm_V), cR ι β lim p 0 → (∀ ι' : bm_S, cR ι' β lim p4 r5 → Fr fR ι ι' → bW sc 76 84 [br 8 0, v1, bi x, bi y] [] ι' Q) → bC sc 4 [br 0 0, bi 1] ι (bk1 (fun r2 ι2 => (if r2 = (1 : Int) then bC sc 3 [br 0 0, bi 4] ι2 (bk0 (fun ι3 => bW sc 76 39 [br 8 0, v1, bu, bu] [] ι3 Q) (bq Q)) else bW sc 76 39 [br 8 0, v1, bu, bu] [] ι2 Q)) (bq Q)) := by
    intro ι Q v1 hR h
    have go : ∀ ι2 : bm_S, cR ι2 β lim p1 r2 → Fr fR ι ι2 → bW sc 76 39 [br 8 0, v1, bu, bu] [] ι2 Q := fun ι2 x2 F2 => by
      refine e_O_passOver_39 (j7 ι2 _ _ x2 (fun ι3 x3 F3 => ⟨by omega, k7 ι3 _ _ x3 (fun ι4 x4 F4 => ?_)⟩))
      have FF := (F2.trans F3).trans F4
      have fin : r4 = r5 → bW sc 76 84 [br 8 0, v1, bi x, bi y] [] ι4 Q := fun e => h ι4 (by rw [← e]; exact x4) FF
      refine bif_i (fun c => fin ?_) (fun c => ⟨by omega, by omega, by omega, bif_i (fun c1 => ?_) (fun c1 => fin ?_)⟩)
      · rw [hr5]; by_cases e : r4 = 0
        · rw [if_neg (by omega), if_neg (by omega)]; exact e
        · rw [if_pos e]
      · refine s_broken (fun e => ?_) (fun e => fin ?_)
        · have e := x4.2.2.1.symm.trans e
          have F5 : Fr fR ι4 (up ι4 0 0 3 5) := (Fr.refl _ _).u (by omega)
          exact h _ (x4.fr F5 (fun j => by omega) (by simp (disch := omega) only [up_s, up_k, up_j, up_i]; exact x4.1) (by simp (disch := omega) only [up_s, up_k, up_j, up_i]; rw [hr5, if_neg (by omega), if_pos ⟨by omega, c1⟩])) (FF.trans F5)
        · have e : r4 ≠ 0 := fun q => e (x4.2.2.1.trans q)
          rw [hr5, if_pos e]
      · rw [hr5]; by_cases e : r4 = 0
        · rw [if_neg (by omega), if_neg (fun q => c1 q.2)]; exact e
        · rw [if_pos e]
    refine i7 ι _ _ hR (fun ι1 x1 F1 => bif_i (fun c => ?_) (fun c => go ι1 ?_ F1))
    · have e : r1 = 0 := by
        by_cases e : r1 = 0
        · exact e
        · have := i5 e; omega
      refine s_broken (fun e1 => ?_) (fun e1 => absurd (x1.2.2.1.trans e) e1)
      have F5 : Fr fR ι1 (up ι1 0 0 3 4) := (Fr.refl _ _).u (by omega)
      exact go _ (x1.fr F5 (fun j => by omega) (by simp (disch := omega) only [up_s, up_k, up_j, up_i]; exact x1.1) (by simp (disch := omega) only [up_s, up_k, up_j, up_i]; rw [hr2, if_neg (by omega), if_pos c])) (F1.trans F5)
    · rw [hr2]; by_cases e : r1 = 0
      · rw [if_neg (by omega), if_neg c, ← e]; exact x1
      · rw [if_pos e]; exact x1
  -- the other up to the numbers
  have goM : ∀ (ι : bm_S) (Q : bm_O → bm_S → Prop) (v1 v2 v3 v4 : bm_V), mR ι β lim p → (r5 = 0 → ∀ ι' : bm_S, mR ι' β lim p4 → Fr gR ι ι' → mOv sc Q (if x ≤ 0 then 0 else y + 1) ι') → (r5 ≠ 0 → ∀ ι' : bm_S, mR ι' β lim p4 → ι' 12 0 6 = r5 → Fr gR ι ι' → bq Q (12, 0) ι') → bC sc 173 [br 13 0] ι (bk1 (fun r2 ι2 => (if r2 = (1 : Int) then bC sc 152 [br 13 0, bi 4] ι2 (bk0 (fun ι3 => bW sc 220 28 [br 13 0, v1, v2, v3, v4] [] ι3 Q) (bq Q)) else bW sc 220 28 [br 13 0, v1, v2, v3, v4] [] ι2 Q)) (bq Q)) := by
    intro ι Q v1 v2 v3 v4 hR h hh
    have out : ∀ (r : Int) (p' : Int) (ι' : bm_S), r ≠ 0 → r5 = r → p4 = p' → mR ι' β lim p' → ι' 12 0 6 = r → Fr gR ι ι' → bq Q (12, 0) ι' := fun r p' ι' e1 e2 e3 a1 a2 F => hh (by omega) ι' (by rw [e3]; exact a1) (by omega) F
    have e24 : r2 ≠ 0 → r5 = r2 ∧ p4 = p1 := fun e => by
      have a := j3 e
      have b := k3 (by omega)
      rw [if_pos (by omega)] at hr5
      omega
    have e34 : r3 ≠ 0 → r5 = r3 ∧ p4 = p3 := fun e => by
      have b := k3 e
      rw [if_pos (by omega)] at hr5
      omega
    refine i8 rfl ι _ _ hR (fun e ι1 x1 F1 => bif_i (fun c => ?_) (fun c => ?_)) (fun e ι1 x1 y1 F1 => ?_)
    · have hr20 : r2 = 4 := by rw [hr2, if_neg (by omega), if_pos c]
      have F2 : Fr gR ι1 (up ι1 12 0 6 4) := (Fr.refl _ _).u (by omega)
      have q := e24 (by omega)
      exact m_fail (out 4 p1 _ (by omega) (by omega) q.2 (x1.fr F2 (fun j => by omega) (by simp (disch := omega) only [up_s, up_k, up_j, up_i]; exact x1.1)) (by simp (disch := omega) only [up_s, up_k, up_j, up_i]) (F1.trans F2))
    · have hr20 : r2 = 0 := by rw [hr2, if_neg (by omega), if_neg c]
      refine e_M_passOver_28 (j8 hr20 ι1 _ _ x1 (fun e3 ι2 x2 F2 => ⟨by omega, k8 e3 ι2 _ _ x2 (fun e4 ι3 x3 F3 => ?_) (fun e4 ι3 x3 y3 F3 => out r4 p4 ι3 e4 (by rw [hr5, if_pos e4]) rfl x3 y3 ((F1.trans F2).trans F3))⟩) (fun e3 ι2 x2 y2 F2 => out r3 p3 ι2 e3 (e34 e3).1 (e34 e3).2 x2 y2 (F1.trans F2)))
      have FF := (F1.trans F2).trans F3
      have fin : ¬ (1 < x ∧ y / bm_p2 (8 * (x - 1)) = 0) → (if x ≤ (0 : Int) then mOv sc Q 0 ι3 else (bm_rg (y + 1)) ∧ mOv sc Q (y + 1) ι3) := fun c2 => by
        have h := h (by rw [hr5, if_neg (by omega), if_neg c2]) ι3 x3 FF
        by_cases c3 : x ≤ 0
        · rw [if_pos c3] at h ⊢; exact h
        · rw [if_neg c3] at h ⊢; exact ⟨by omega, h⟩
      refine bif_i (fun c1 => fin (by omega)) (fun c1 => ⟨by omega, by omega, by omega, bif_i (fun c2 => ?_) (fun c2 => fin (fun q => c2 q.2))⟩)
      have F4 : Fr gR ι3 (up ι3 12 0 6 5) := (Fr.refl _ _).u (by omega)
      exact m_fail (out 5 p4 _ (by omega) (by rw [hr5, if_neg (by omega), if_pos ⟨by omega, c2⟩]) rfl (x3.fr F4 (fun j => by omega) (by simp (disch := omega) only [up_s, up_k, up_j, up_i]; exact x3.1)) (by simp (disch := omega) only [up_s, up_k, up_j, up_i]) (FF.trans F4))
    · have hr20 : r2 = r1 := by rw [hr2, if_pos e]
      have q := e24 (by omega)
      exact out r1 p1 ι1 e (by omega) q.2 x1 y1 F1
  by_cases hr : r5 = 0
  · obtain ⟨p6, r6, PA6, t1, t2, t3', t4, t5⟩ := j_over2 (sc := sc) hw hpc h1z x y (by omega) (by omega) p4 (by omega) k2
    refine ⟨p6, r6, PA6, by omega, t2, t3', ?_, ?_⟩
    · intro ι K H v1 hR h3 hP h
      refine goC ι (bk0 K H) v1 hR (fun ι1 x1 F1 => ?_)
      rw [hr] at x1
      exact t4 ι1 K H v1 x1 (by rw [F1 8 0 3 (by omega)]; exact h3) (hP.fr F1 (fun j => by omega)) (fun ι2 x2 P2 F2 => h ι2 x2 P2 ((F1.wide fun t i j q => Or.inl q).trans F2))
    · intro ι Q v1 v2 v3 v4 hR h19 hP h hh
      refine goM ι Q v1 v2 v3 v4 hR (fun _ ι1 x1 F1 => ?_) (fun e => absurd hr e)
      exact t5 ι1 Q x1 (by rw [F1 13 0 19 (by omega)]; exact h19) (hP.fr F1 (fun j => by omega)) (fun e ι2 x2 P2 F2 => h e ι2 x2 P2 ((F1.wide fun t i j q => Or.inl q).trans F2)) (fun e ι2 x2 y2 P2 F2 => hh e ι2 x2 y2 P2 ((F1.wide fun t i j q => Or.inl q).trans F2))
  · refine ⟨p4, r5, PA, by omega, k2, hr5', ?_, ?_⟩
    · intro ι K H v1 hR h3 hP h
      refine goC ι (bk0 K H) v1 hR (fun ι1 x1 F1 => s_over84_err (by rw [x1.1]; omega) (by omega) (by rw [x1.2.2.1]; exact hr) (h ι1 x1 (hP.fr F1 (fun j => by omega)) (F1.wide fun t i j q => Or.inl q)))
    · intro ι Q v1 v2 v3 v4 hR h19 hP h hh
      exact goM ι Q v1 v2 v3 v4 hR (fun e => absurd e hr) (fun e ι1 x1 y1 F1 => hh e ι1 x1 y1 (hP.fr F1 (fun j => by omega)) (F1.wide fun t i j q => Or.inl q))
end Over
