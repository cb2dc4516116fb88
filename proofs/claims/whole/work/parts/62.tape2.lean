/-! end, spoil, wipe, pass, out; bits -/
def b8 (x : Int) : Int8 := (Int32.ofInt x).toInt8
theorem by_b8 (x : Int) : bm_byte x = (b8 x).toInt := by
  have h := (bm_byt (x := x))
  have h1 := congrArg Int32.toInt h.1
  rw [bm_t h.2, Int8.toInt_toInt32] at h1
  exact h1.symm
theorem b8_by (x : Int) : b8 (bm_byte x) = b8 x := by
  refine Int8.toInt_inj.mp ?_
  rw [← by_b8, ← by_b8, by_by]
theorem b8_or (x y : Int) : b8 (bm_or x y) = b8 x ||| b8 y := by
  unfold b8 bm_or
  rw [Int32.ofInt_toInt, Int32.toInt8_or]
theorem b8_xor (x y : Int) : b8 (bm_xor x y) = b8 x ^^^ b8 y := by
  unfold b8 bm_xor
  rw [Int32.ofInt_toInt, Int32.toInt8_xor]
theorem by_or_r (x y : Int) : bm_byte (bm_or x (bm_byte y)) = bm_byte (bm_or x y) := by rw [by_b8 (bm_or x (bm_byte y)), by_b8 (bm_or x y), b8_or, b8_or, b8_by]
theorem by_xor_r (x y : Int) : bm_byte (bm_xor x (bm_byte y)) = bm_byte (bm_xor x y) := by rw [by_b8 (bm_xor x (bm_byte y)), by_b8 (bm_xor x y), b8_xor, b8_xor, b8_by]
theorem b8_0 : b8 0 = 0 := by decide
theorem by_or_0 (x : Int) : bm_byte (bm_or x 0) = bm_byte x := by rw [by_b8, by_b8, b8_or, b8_0, Int8.or_zero]
theorem by_0 : bm_byte 0 = 0 := by decide
section TapeMethods
variable {sc : bm_Sc} {ι : bm_S} {Rest : bm_S → Prop} {H : Nat × Int → bm_S → Prop}
theorem p_end {x : Int} (hR : ∀ ι ι', Fr sf ι ι' → Rest ι → Rest ι') (hJ : Jn Rest ι) : Pair sc 122 155 [bi x] ι (Jn Rest) := by
  obtain ⟨⟨t1, t2, t3, t4⟩, hm, hw, hr⟩ := hJ
  have hL := L20_0
  have hB : By ι 0 (ι 2 0 1) (ι 2 0 2) (ι 20 0) := ⟨rfl, rfl, fun k _ _ => rfl⟩
  have bad : ¬ (0 ≤ x ∧ x ≤ 20 ∧ 20 ≤ ι 2 0 1) → bC sc 155 [br 13 0, bi x] ι (bk1 (fun r2 ι2 => -1 = r2 ∧ Jn Rest ι2) (fun _ _ => False)) := by
    intro hb
    have fin : Jn Rest (up ι 13 0 0 0) := ⟨⟨t1, t2, t3, t4⟩, hm, hw, hR _ _ ((Fr.refl sf ι).u (by unfold sf; omega)) hr⟩
    refine e_M_end_0 (bif_i (fun h1 => ?_) (fun h1 => (bif_f (by omega) ?_)))
    · exact ⟨rfl, fin⟩
    · exact ⟨rfl, fin⟩
  refine e_X_end_0 (bif_i (fun h1 => ?_) (fun h1 => (bif_i (fun h2 => ?_) (fun h2 => (bif_i (fun h3 => ⟨by omega, ⟨by omega, ?_⟩⟩) (fun h3 => ?_))))))
  · exact bad (by omega)
  · exact bad (by omega)
  · refine s_cut (Or.inl rfl) hB (by omega) fun ι1 b1 f1 => ?_
    have F := f1.fr
    have e3 : ι1 13 0 3 = ι 13 0 3 := F 13 0 3 (by omega)
    refine e_M_end_0 (bif_f (by (first | omega | (rw [e3]; omega))) (bif_t (by (first | omega | (rw [e3]; omega))) ⟨by (first | omega | (rw [e3]; omega)), ⟨by (first | omega | (rw [e3]; omega)), ?_⟩⟩))
    refine ⟨by rw [b1.1, e3, t2]; omega, ⟨?_, ?_, fun k k0 k1 => ?_, Or.inl ⟨?_, ?_⟩⟩, ?_, ?_, ?_⟩
    · simp (disch := omega) only [up_s, up_k, up_j, up_i]; rw [b1.1]; omega
    · simp (disch := omega) only [up_s, up_k, up_j, up_i]; rw [b1.1, e3, t2]; omega
    · rw [up_k (by decide), up_k (by decide), up_k (by decide), b1.1] at k1
      rw [up_k (by decide), up_k (by decide), up_k (by decide), up_k (by decide), up_k (by decide), up_k (by decide), b1.2.2 k k0 (by omega), F 66 0 k (by omega)]
      exact t3 k k0 (by omega)
    · simp (disch := omega) only [up_s, up_k, up_j, up_i]; omega
    · simp (disch := omega) only [up_s, up_k, up_j, up_i]; rw [b1.1, b1.2.1]
    · exact hm.to ((((F.wide (P' := sf) fun t i j q => by unfold sf; omega).u (show sf 13 0 0 by unfold sf; omega)).u (show sf 13 0 3 by unfold sf; omega)).u (show sf 13 0 4 by unfold sf; omega)) (fun j => by unfold sf; omega)
    · exact hw.to ((((F.wide (P' := fun t i j => (t = 2 ∨ t = 20) ∧ i = 0 ∨ t = 13) fun t i j q => by omega).u (by omega)).u (by omega)).u (by omega)) (fun j => by omega)
    · exact hR _ _ ((((F.wide (P' := sf) fun t i j q => by unfold sf; omega).u (show sf 13 0 0 by unfold sf; omega)).u (show sf 13 0 3 by unfold sf; omega)).u (show sf 13 0 4 by unfold sf; omega)) hr
  · exact bad (by omega)
theorem p_spoil {x y : Int} (hR : ∀ ι ι', Fr sf ι ι' → Rest ι → Rest ι') (hJ : Jn Rest ι) : Pair sc 124 157 [bi x, bi y] ι (Jn Rest) := by
  obtain ⟨⟨t1, t2, t3, t4⟩, hm, hw, hr⟩ := hJ
  have hL := L20_0
  have bad : ¬ (0 ≤ x ∧ x < ι 2 0 1 ∧ 1 ≤ y ∧ y ≤ 255) → bC sc 157 [br 13 0, bi x, bi y] ι (bk1 (fun r2 ι2 => -1 = r2 ∧ Jn Rest ι2) (fun _ _ => False)) := by
    intro hb
    have fin : Jn Rest (up ι 13 0 0 0) := ⟨⟨t1, t2, t3, t4⟩, hm, hw, hR _ _ ((Fr.refl sf ι).u (by unfold sf; omega)) hr⟩
    refine e_M_spoil_0 ⟨by omega, bif_i (fun h1 => ?_) (fun h1 => bif_t (by omega) ?_)⟩
    · exact ⟨rfl, fin⟩
    · exact ⟨rfl, fin⟩
  refine e_X_spoil_0 (bif_i (fun h1 => ?_) (fun h1 => (bif_i (fun h2 => ?_) (fun h2 => (bif_i (fun h3 => ?_) (fun h3 => (bif_i (fun h4 => ⟨by omega, ⟨by omega, ?_⟩⟩) (fun h4 => ?_))))))))
  · exact bad (by omega)
  · exact bad (by omega)
  · exact bad (by omega)
  · have hB : By (up ι 20 0 x (bm_byte (bm_byte (bm_xor (ι 20 0 x) (bm_byte y))))) 0 (ι 2 0 1) (ι 2 0 2) (fs (ι 20 0) x (bm_byte (bm_xor (ι 20 0 x) y))) := ⟨by simp (disch := omega) only [up_s, up_k, up_j, up_i], by simp (disch := omega) only [up_s, up_k, up_j, up_i], fun k _ _ => by
      rw [up_at, by_by, by_xor_r]; rfl⟩
    refine s_cut (Or.inl rfl) hB (by omega) fun ι1 b1 f1 => ?_
    have F := f1.fr
    have s1 : ι1 2 0 1 = ι 2 0 1 := by rw [b1.1]; omega
    have e3 : ι1 13 0 3 = ι 13 0 3 := by rw [F 13 0 3 (by omega)]; simp (disch := omega) only [up_s, up_k, up_j, up_i]
    refine s_at (Or.inl rfl) (by omega) ?_
    rw [if_neg (by omega), b1.2.2 x (by omega) (by omega), fs_s]
    have e66 : ∀ k, ι1 66 0 k = ι 66 0 k := fun k => by rw [F 66 0 k (by omega)]; simp (disch := omega) only [up_s, up_k, up_j, up_i]
    refine e_M_spoil_0 ⟨by omega, bif_f (by omega) (bif_f (by omega) ⟨by omega, by omega, by omega, ?_⟩)⟩
    have G : Fr sf ι (up (up (up ι1 13 0 0 0) 66 0 x (bm_byte (bm_byte (bm_xor (ι1 66 0 x) y)))) 13 0 4 (-1)) :=
      ((((((Fr.refl sf ι).u (show sf 20 0 x by unfold sf; omega)).trans (F.wide fun t i j q => by unfold sf; omega)).u (show sf 13 0 0 by unfold sf; omega)).u (show sf 66 0 x by unfold sf; omega)).u (show sf 13 0 4 by unfold sf; omega))
    have hx := t3 x (by omega) (by omega)
    refine ⟨?_, ⟨?_, ?_, fun k k0 k1 => ?_, Or.inl ⟨?_, ?_⟩⟩, ?_, ?_, hR _ _ G hr⟩
    · rw [up_s, e66, by_by, hx.1]
    · simp (disch := omega) only [up_s, up_k, up_j, up_i]; omega
    · simp (disch := omega) only [up_s, up_k, up_j, up_i]; omega
    · have k2 : k < ι 2 0 1 := by
        rw [up_k (by decide), up_k (by decide), up_k (by decide)] at k1; omega
      have hk := t3 k k0 k2
      rw [up_k (by decide), up_k (by decide), up_k (by decide), up_k (by decide), up_at, up_k (by decide), b1.2.2 k k0 (by omega), e66, e66, by_by]
      unfold fs
      by_cases q : k = x
      · rw [if_pos q, if_pos q, hx.1]; exact ⟨rfl, by_rg _⟩
      · rw [if_neg q, if_neg q]; exact hk
    · simp (disch := omega) only [up_s, up_k, up_j, up_i]; omega
    · simp (disch := omega) only [up_s, up_k, up_j, up_i]; rw [b1.1, b1.2.1]
    · exact hm.to G (fun j => by unfold sf; omega)
    · refine hw.to (P := fun t i j => t = 20 ∨ t = 2 ∨ t = 13 ∨ t = 66) ((((((Fr.refl _ ι).u (show 20 = 20 ∨ _ by omega)).trans (F.wide fun t i j q => by omega)).u (by omega)).u (by omega)).u (by omega)) (fun j => by omega)
  · exact bad (by omega)
theorem m_emptyTape {K : bm_S → Prop} (h : K (up (up ι 13 0 3 0) 13 0 4 (-1))) : bC sc 158 [br 13 0] ι (bk0 K H) := by
  exact e_M_emptyTape_0 h
/-- the empty tape -/
theorem Jt_empty {ι ι1 : bm_S} (f1 : FrB 0 ι ι1) {s b : Int} {f : Int → Int} (b1 : By ι1 0 s b f) (hs : s = 0) (hb : b = 0) : ∀ ι', ι' 2 0 1 = ι1 2 0 1 → ι' 2 0 2 = ι1 2 0 2 → ι' 13 0 3 = 0 → ι' 13 0 4 = -1 → Jt ι' := by
  intro ι' c1 c2 c3 c4
  refine ⟨by rw [c1, b1.1]; omega, by rw [c1, b1.1, c3, hs], fun k k0 k1 => ?_, Or.inl ⟨by rw [c4]; omega, by rw [c1, c2, b1.1, b1.2.1]; omega⟩⟩
  rw [c1, b1.1] at k1
  omega
theorem p_wipe (hR : ∀ ι ι', Fr sf ι ι' → Rest ι → Rest ι') (hJ : Jn Rest ι) : Pair sc 125 159 [] ι (Jn Rest) := by
  obtain ⟨⟨t1, t2, t3, t4⟩, hm, hw, hr⟩ := hJ
  have hL := L20_0
  have hB : By ι 0 (ι 2 0 1) (ι 2 0 2) (ι 20 0) := ⟨rfl, rfl, fun k _ _ => rfl⟩
  refine e_X_wipe_0 ?_
  refine s_cut (Or.inl rfl) hB (by omega) fun ι1 b1 f1 => ?_
  have F := f1.fr
  refine e_M_wipe_0 (m_emptyTape ?_)
  have G : Fr (fun t i j => (t = 2 ∨ t = 20) ∧ i = 0 ∨ t = 13 ∧ (j = 0 ∨ j = 3 ∨ j = 4)) ι (up (up (up ι1 13 0 0 0) 13 0 3 0) 13 0 4 (-1)) := ((((F.wide fun t i j q => by omega).u (by omega)).u (by omega)).u (by omega))
  refine ⟨by rw [F 13 0 3 (by omega), t2], ?_, hm.to G (fun j => by omega), hw.to G (fun j => by omega), hR _ _ (G.wide fun t i j q => by unfold sf; omega) hr⟩
  exact Jt_empty f1 b1 (by omega) (by omega) _ (by simp (disch := omega) only [up_s, up_k, up_j, up_i]) (by simp (disch := omega) only [up_s, up_k, up_j, up_i]) (by simp (disch := omega) only [up_s, up_k, up_j, up_i]) (by simp (disch := omega) only [up_s, up_k, up_j, up_i])
theorem p_out {x : Int} (hR : ∀ ι ι', Fr sf ι ι' → Rest ι → Rest ι') (hJ : Jn Rest ι) : Pair sc 133 226 [bi x] ι (Jn Rest) := by
  obtain ⟨⟨t1, t2, t3, t4⟩, ⟨m1, m2, m3⟩, hw, hr⟩ := hJ
  have hL := L20_1
  have fin : Jn Rest (up ι 13 0 0 0) := ⟨⟨t1, t2, t3, t4⟩, ⟨m1, m2, m3⟩, hw, hR _ _ ((Fr.refl sf ι).u (by unfold sf; omega)) hr⟩
  refine e_X_out_0 (bif_i (fun h1 => ?_) (fun h1 => (bif_i (fun h2 => ?_) (fun h2 => ?_))))
  · refine e_M_out_0 ⟨by omega, bif_t (by omega) ?_⟩
    exact ⟨rfl, fin⟩
  · refine s_at (Or.inr rfl) (by omega) ?_
    rw [if_neg (by omega)]
    refine e_M_out_0 ⟨by omega, bif_f (by omega) ⟨by omega, ?_⟩⟩
    exact ⟨by rw [(m3 x (by omega) (by omega)).1], fin⟩
  · refine e_M_out_0 ⟨by omega, bif_t (by omega) ?_⟩
    exact ⟨rfl, fin⟩
theorem x_pass26 {K : Int → bm_S → Prop} : ∀ (m : Nat) (i : Int) (b : Int) (f : Int → Int) (ι : bm_S), i = ι 2 1 1 - m → 0 ≤ i → ι 2 1 1 ≤ 2400 → By ι 0 i b f → (∀ k, 0 ≤ k → k < i → f k = ι 20 1 k) → b = 8 * i → (∀ k, 0 ≤ k → k < ι 2 1 1 → -128 ≤ ι 20 1 k ∧ ι 20 1 k < 128) →
    (∀ ι', By ι' 0 (ι 2 1 1) (8 * ι 2 1 1) (ι 20 1) → FrB 0 ι ι' → K (ι 2 1 1) ι') → bW sc 132 26 [br 11 0, bi i] [] ι (bk1 K H)
  | 0, i, b, f, ι, hi, h0, h1, hB, hf, hb, hr, h => by
    refine e_X_pass_26 (bif_t (by omega) ?_)
    have e : i = ι 2 1 1 := by omega
    subst e
    have := h ι ⟨hB.1, by rw [hB.2.1, hb], fun k k0 k1 => by rw [hB.2.2 k k0 k1, hf k k0 k1]⟩ (FrB.refl _ _)
    rw [hB.1]
    exact this
  | m + 1, i, b, f, ι, hi, h0, h1, hB, hf, hb, hr, h => by
    have hL0 := L20_0
    have hL1 := L20_1
    refine e_X_pass_26 (bif_f (by omega) (s_at (Or.inr rfl) (by omega) ?_))
    rw [if_neg (by omega)]
    refine s_add (Or.inl rfl) hB (by omega) fun ι1 b1 f1 => ⟨by omega, ?_⟩
    have e21 : ι1 2 1 1 = ι 2 1 1 := f1 2 1 1 (by omega)
    have e20 : ∀ k, ι1 20 1 k = ι 20 1 k := fun k => f1 20 1 k (by omega)
    refine x_pass26 m (i + 1) _ _ ι1 (by omega) (by omega) (by omega) b1 (fun k k0 k1 => ?_) rfl (fun k k0 k1 => by rw [e20]; exact hr k k0 (by omega)) ?_
    · rw [e20]
      unfold fs
      by_cases q : k = i
      · rw [if_pos q, q, by_m, by_id (hr i h0 (by omega))]
      · rw [if_neg q]; exact hf k k0 (by omega)
    · rw [e21]
      intro ι' g1 g2
      refine h ι' ⟨g1.1, g1.2.1, fun k k0 k1 => by rw [g1.2.2 k k0 k1, e20]⟩ (f1.trans g2)
theorem m_pass24 {K : Int → bm_S → Prop} : ∀ (m : Nat) (i : Int) (ι : bm_S), i = ι 13 0 6 - m → 0 ≤ i → ι 13 0 6 ≤ 2400 →
    (∀ ι', ι' 13 0 3 = ι 13 0 6 → (∀ k, i ≤ k → k < ι 13 0 6 → ι' 66 0 k = bm_byte (ι 67 0 k)) → (∀ k, k < i → ι' 66 0 k = ι 66 0 k) → Fr (fun t i j => t = 66 ∨ t = 13 ∧ j = 3) ι ι' → K (ι 13 0 6) ι') → bW sc 225 24 [br 13 0, bi i] [] ι (bk1 K H)
  | 0, i, ι, hi, h0, h1, h => by
    refine e_M_pass_24 (bif_t (by omega) ?_)
    exact h _ (by simp (disch := omega) only [up_s, up_k, up_j, up_i]) (fun k k0 k1 => by omega) (fun k k0 => by simp (disch := omega) only [up_s, up_k, up_j, up_i]) ((Fr.refl _ _).u (by omega))
  | m + 1, i, ι, hi, h0, h1, h => by
    refine e_M_pass_24 (bif_f (by omega) ⟨by omega, ⟨by omega, ⟨by omega, ?_⟩⟩⟩)
    refine m_pass24 m (i + 1) _ (by simp (disch := omega) only [up_s, up_k, up_j, up_i]; omega) (by omega) (by simp (disch := omega) only [up_s, up_k, up_j, up_i]; omega) ?_
    rw [up_k (by decide)]
    intro ι' g1 g2 g3 g4
    refine h ι' g1 (fun k k0 k1 => ?_) (fun k k0 => ?_) (((Fr.refl _ _).u (by omega)).trans g4)
    · by_cases q : k = i
      · rw [g3 k (by omega), q, up_s]
      · rw [g2 k (by omega) k1, up_k (by decide)]
    · rw [g3 k (by omega)]; simp (disch := omega) only [up_s, up_k, up_j, up_i]
theorem p_pass (hR : ∀ ι ι', Fr sf ι ι' → Rest ι → Rest ι') (hJ : Jn Rest ι) : Pair sc 132 225 [] ι (Jn Rest) := by
  obtain ⟨⟨t1, t2, t3, t4⟩, ⟨m1, m2, m3⟩, hw, hr⟩ := hJ
  have hL := L20_0
  have hB : By ι 0 (ι 2 0 1) (ι 2 0 2) (ι 20 0) := ⟨rfl, rfl, fun k _ _ => rfl⟩
  refine e_X_pass_0 (bif_i (fun h1 => ?_) (fun h1 => ?_))
  · refine s_cut (Or.inl rfl) hB (by omega) fun ι1 b1 f1 => ?_
    have e21 : ι1 2 1 1 = ι 2 1 1 := f1 2 1 1 (by omega)
    have e20 : ∀ k, ι1 20 1 k = ι 20 1 k := fun k => f1 20 1 k (by omega)
    refine x_pass26 (ι 2 1 1).toNat 0 _ _ ι1 (by omega) (by omega) (by omega) (by rw [show min (max 0 0) (ι 2 0 1) = 0 by omega] at b1; exact b1) (fun k k0 k1 => by omega) (by omega) (fun k k0 k1 => ?_) ?_
    · rw [e20]
      have := m3 k k0 (by omega)
      omega
    · rw [e21]
      intro ι2 b2 f2
      have F := f1.trans f2
      refine e_M_pass_0 (bif_t (by rw [F 13 0 6 (by omega)]; omega) (m_emptyTape ?_))
      have c6 : up (up (up ι2 13 0 0 0) 13 0 3 0) 13 0 4 (-1) 13 0 6 = ι 2 1 1 := by simp (disch := omega) only [up_s, up_k, up_j, up_i]; rw [F 13 0 6 (by omega), m2]
      refine m_pass24 (ι 2 1 1).toNat 0 _ (by rw [c6]; omega) (by omega) (by rw [c6]; omega) ?_
      rw [c6]
      intro ι' g1 g2 g3 g4
      have c67 : ∀ k, up (up (up ι2 13 0 0 0) 13 0 3 0) 13 0 4 (-1) 67 0 k = ι 67 0 k := fun k => by simp (disch := omega) only [up_s, up_k, up_j, up_i]; exact F 67 0 k (by omega)
      have c20 : ∀ i j, ι' 20 i j = ι2 20 i j := fun i j => by rw [g4 20 i j (by omega)]; simp (disch := omega) only [up_s, up_k, up_j, up_i]
      have c2 : ∀ i j, ι' 2 i j = ι2 2 i j := fun i j => by rw [g4 2 i j (by omega)]; simp (disch := omega) only [up_s, up_k, up_j, up_i]
      have G : Fr (fun t i j => (t = 2 ∨ t = 20) ∧ i = 0 ∨ t = 66 ∨ t = 13 ∧ (j = 0 ∨ j = 3 ∨ j = 4)) ι ι' := (((((F.fr).wide fun t i j q => by omega).u (by omega)).u (by omega)).u (by omega)).trans (g4.wide fun t i j q => by omega)
      refine ⟨rfl, ⟨by rw [c2, b2.1]; omega, by rw [c2, b2.1, g1], fun k k0 k1 => ?_, Or.inl ⟨?_, by rw [c2, c2, b2.1, b2.2.1]⟩⟩, Jm.to G (fun j => by omega) ⟨m1, m2, m3⟩, hw.to G (fun j => by omega), hR _ _ (G.wide fun t i j q => by unfold sf; omega) hr⟩
      · rw [c2, b2.1] at k1
        have hk := m3 k k0 k1
        rw [c20, b2.2.2 k k0 k1, e20, g2 k k0 k1, c67, by_id (by omega), hk.1]
        exact ⟨rfl, by omega⟩
      · rw [g4 13 0 4 (by omega)]; simp (disch := omega) only [up_s, up_k, up_j, up_i]; omega
  · refine e_M_pass_0 (bif_f (by omega) ?_)
    exact ⟨rfl, ⟨t1, t2, t3, t4⟩, ⟨m1, m2, m3⟩, hw, hR _ _ ((Fr.refl sf ι).u (by unfold sf; omega)) hr⟩
end TapeMethods
