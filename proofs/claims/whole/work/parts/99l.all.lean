/-! a row, opened whole -/
section All
variable {sc : bm_Sc} {β : Int → Int} {lim : Int}
def rg0 (i : Int) : Int := if i = 0 then 4 else if i = 1 then 11 else if i = 2 then 15 else 16
theorem rg0_rg : ∀ i, 0 ≤ i → i < 4 → 1 ≤ rg0 i ∧ rg0 i ≤ 4096 := fun i x y => by unfold rg0; grind
abbrev fBg (t : Nat) (i j : Int) : Prop := t = 0 ∧ (j = 1 ∨ j = 2 ∨ j = 3) ∨ (t = 2 ∨ t = 20) ∧ i = 1 ∨ t = 51 ∨ t = 8 ∧ (j = 3 ∨ j = 5 ∨ j = 15)
theorem s_begin {ι : bm_S} {K : bm_S → Prop} {H : Nat × Int → bm_S → Prop} (hl : 8 * ι 2 0 1 = lim) (hlim : 0 ≤ lim ∧ lim ≤ 19200) (hs : 0 ≤ ι 2 1 1 ∧ ι 2 1 1 ≤ 4096) (h : ∀ ι' : bm_S, ι' 0 0 1 = 0 → ι' 0 0 2 = lim → ι' 0 0 3 = 0 → ι' 2 1 1 = 0 → (∀ i, 0 ≤ i → i < 4 → ι' 51 0 i = rg0 i) → ι' 8 0 3 = 0 → ι' 8 0 5 = 0 → ι' 8 0 15 = 0 → Fr fBg ι ι' → K ι') : bC sc 70 [br 8 0] ι (bk0 K H) := by
  refine e_O_begin_0 (e_R_start_0 ⟨by omega, ?_⟩)
  rw [hl]
  have F1 : Fr fBg ι (up (up (up ι 0 0 1 0) 0 0 2 lim) 0 0 3 0) := (((Fr.refl _ _).u (by omega)).u (by omega)).u (by omega)
  refine s_cut (s := ι 2 1 1) (b := ι 2 1 2) (f := ι 20 1) (Or.inr rfl) ⟨by simp (disch := omega) only [up_s, up_k, up_j, up_i], by simp (disch := omega) only [up_s, up_k, up_j, up_i], fun k _ _ => by simp (disch := omega) only [up_s, up_k, up_j, up_i]⟩ (by rw [L20_1]; exact hs) (fun ι1 hB hF => ?_)
  have F2 := hF.fr
  refine e_X_startRing_51_0 ⟨by omega, by omega, by omega, by omega, ⟨by omega, by omega, ?_⟩⟩
  have F3 : Fr fBg ι (up (up (up (up (up (up (up ι1 51 0 0 4) 51 0 1 11) 51 0 2 15) 51 0 3 16) 8 0 3 0) 8 0 5 0) 8 0 15 0) := ((((((((F1.trans (F2.wide fun t i j q => by omega)).u (by omega)).u (by omega)).u (by omega)).u (by omega)).u (by omega)).u (by omega)).u (by omega))
  refine h _ ?_ ?_ ?_ ?_ (fun i x y => ?_) ?_ ?_ ?_ F3
  · simp (disch := omega) only [up_s, up_k, up_j, up_i]; rw [F2 0 0 1 (by omega)]; simp (disch := omega) only [up_s, up_k, up_j, up_i]
  · simp (disch := omega) only [up_s, up_k, up_j, up_i]; rw [F2 0 0 2 (by omega)]; simp (disch := omega) only [up_s, up_k, up_j, up_i]
  · simp (disch := omega) only [up_s, up_k, up_j, up_i]; rw [F2 0 0 3 (by omega)]; simp (disch := omega) only [up_s, up_k, up_j, up_i]
  · simp (disch := omega) only [up_s, up_k, up_j, up_i]; rw [hB.1]; omega
  · have : i = 0 ∨ i = 1 ∨ i = 2 ∨ i = 3 := by omega
    rcases this with rfl | rfl | rfl | rfl
    · simp (disch := omega) only [up_s, up_k, up_j, up_i]; rfl
    · simp (disch := omega) only [up_s, up_k, up_j, up_i]; rfl
    · simp (disch := omega) only [up_s, up_k, up_j, up_i]; rfl
    · simp (disch := omega) only [up_s, up_k, up_j, up_i]; rfl
  · simp (disch := omega) only [up_s, up_k, up_j, up_i]
  · simp (disch := omega) only [up_s, up_k, up_j, up_i]
  · simp (disch := omega) only [up_s, up_k, up_j, up_i]
abbrev fAl (t : Nat) (i j : Int) : Prop := fOp t i j ∨ t = 0
theorem al_Bg (t : Nat) (i j : Int) (q : fBg t i j) : fAl t i j := by
  rcases q with q | q | q | q
  · exact Or.inr q.1
  · exact Or.inl (op_Rw t i j (Or.inr q))
  · exact Or.inl (Or.inl (Or.inr (Or.inr (Or.inr (Or.inr (Or.inr (Or.inr (Or.inr (Or.inr (Or.inr ⟨by omega, by omega⟩))))))))))
  · rcases q.2 with q2 | q2 | q2
    · exact Or.inl (Or.inr ⟨q.1, Or.inl q2⟩)
    · exact Or.inl (Or.inl (Or.inr (Or.inr (Or.inr (Or.inr (Or.inr (Or.inr (Or.inl ⟨q.1, Or.inr (Or.inl q2)⟩))))))))
    · exact Or.inl (Or.inr ⟨q.1, Or.inr (Or.inr (Or.inr q2))⟩)
theorem al_Sp (t : Nat) (i j : Int) (q : fSp t i j) : fOp t i j := q.elim (op_R t i j) (fun q => Or.inr ⟨q.1, Or.inr (Or.inl q.2)⟩)
theorem gp_Sp (t : Nat) (i j : Int) (q : gSp t i j) : gOp t i j := q.elim (gp_R t i j) (fun q => Or.inr ⟨q.1, Or.inr q.2⟩)
/-- comp, at the end of all -/
def FA (ι ι' : bm_S) (p r s : Int) (f rg PA : Int → Int) (pc tl cm has : Int) (W : bm_S) : Prop := ι' 0 0 1 = p ∧ ι' 2 1 1 = (if r = 0 then s else 0) ∧ (r = 0 → ∀ k, 0 ≤ k → k < s → ι' 20 1 k = f k) ∧ (∀ i, 0 ≤ i → i < 4 → ι' 51 0 i = rg i) ∧ PaC ι' PA ∧ ι' 8 0 3 = pc ∧ TD ι' tl cm has W ∧ Fr fAl ι ι'
theorem dg_c {g c g' c' : Int → Int} (h1 : ∀ k, 0 ≤ k → k < 2240 → g' k = g k) (h2 : ∀ n, 4 ≤ n → n ≤ 10 → c' n = c n) (hg : ∀ k, 0 ≤ k → k < 2240 → -128 ≤ g k ∧ g k < 128) (hc : ∀ n, 4 ≤ n → n ≤ 10 → 0 ≤ c n ∧ c n ≤ 32) : dg g' c' = dg g c := dg_ext ⟨fun k x y => ⟨h1 k x y, hg k x y⟩, fun n x y => ⟨h2 n x y, hc n x y⟩⟩
theorem j_all (hw : wfβ β lim) {g c PA : Int → Int} {tl cm : Int} (hg : ∀ k, 0 ≤ k → k < 2240 → -128 ≤ g k ∧ g k < 128) (hc : ∀ n, 4 ≤ n → n ≤ 10 → 0 ≤ c n ∧ c n ≤ 32) (htl : tl = 0 ∧ cm = 1 ∨ tl = 1 ∧ cm = 0) :
    ∃ (p' r s' : Int) (f' rg' PA' : Int → Int) (pc' tl' cm' has' : Int) (W' : bm_S), (0 ≤ p' ∧ p' ≤ lim) ∧ (r = 0 ∨ 0 < r ∧ r < 18) ∧ (r = 0 → 0 ≤ s' ∧ s' ≤ 3000 ∧ ∀ k, 0 ≤ k → k < s' → -128 ≤ f' k ∧ f' k < 128) ∧ 0 ≤ pc' ∧ TV tl' cm' has' W' ∧
    (∀ (ι : bm_S) (K : Int → bm_S → Prop) (H : Nat × Int → bm_S → Prop), 8 * ι 2 0 1 = lim → (∀ q, 0 ≤ q → q < lim → bt (ι 20 0) q = β q) → (0 ≤ ι 2 1 1 ∧ ι 2 1 1 ≤ 4096) → PaC ι PA → ι 8 0 4 = tl → ι 8 0 6 = cm → (∀ k, 0 ≤ k → k < 2240 → ι 64 0 k = g k) → (∀ n, 4 ≤ n → n ≤ 10 → ι 65 0 n = c n) → Jw ι → (∀ ι' : bm_S, FA ι ι' p' r s' f' rg' PA' pc' tl' cm' has' W' → K (if r = 0 then s' else -10 - r) ι') → bC sc 69 [br 8 0] ι (bk1 K H)) ∧
    (∀ (ι : bm_S) (K : bm_S → Prop) (H : Nat × Int → bm_S → Prop), mR ι β lim 0 → ι 13 0 6 = 0 → (∀ i, 0 ≤ i → i < 4 → ι 77 0 (3 - i) = rg0 i) → PaM ι PA → ι 13 0 19 = 0 → ι 13 0 33 = 0 → (∀ k, 0 ≤ k → k < 2240 → ι 68 0 k = g k) → (∀ n, 4 ≤ n → n ≤ 10 → ι 69 0 n = c n) → (r = 0 → ∀ ι' : bm_S, mR ι' β lim p' → ι' 13 0 6 = s' → (∀ k, 0 ≤ k → k < s' → ι' 67 0 k = f' k) → EM ι' rg' PA' → ι' 13 0 19 = pc' → TDm ι' has' W' → Fr gOp ι ι' → K ι') → (r ≠ 0 → ∀ ι' : bm_S, mR ι' β lim p' → ι' 12 0 6 = r → EM ι' rg' PA' → ι' 13 0 19 = pc' → TDm ι' has' W' → Fr gOp ι ι' → H (12, 0) ι') → bC sc 222 [br 13 0] ι (bk0 K H)) := by
  have hlim := hw.2
  obtain ⟨p1, r1, v, i1, i2, i3, i4, i5, i6, i7⟩ := j_num16 (sc := sc) hw 0 (by omega) (by omega)
  obtain ⟨D, hD⟩ : ∃ D, D = dg g c := ⟨_, rfl⟩
  obtain ⟨r2, hr2⟩ : ∃ r2, r2 = (if r1 ≠ 0 then r1 else if v = D then 0 else 2) := ⟨_, rfl⟩
  have hr2' : r2 = 0 ∨ 0 < r2 ∧ r2 < 18 := by grind
  obtain ⟨p2, r3, wn, j1, j2, j3, j4, j5, j6, j7⟩ := j_span2 (sc := sc) hw p1 r2 i1 i2 hr2'
  obtain ⟨W0, hW0⟩ : ∃ W0 : bm_S, W0 = fun _ _ _ => 0 := ⟨_, rfl⟩
  have hT0 : TV tl cm 0 W0 := ⟨htl, Or.inl rfl, fun e => by omega⟩
  -- comp up to the parts
  have goC : ∀ (ι : bm_S) (Q : bm_O → bm_S → Prop), 8 * ι 2 0 1 = lim → (∀ q, 0 ≤ q → q < lim → bt (ι 20 0) q = β q) → (0 ≤ ι 2 1 1 ∧ ι 2 1 1 ≤ 4096) → PaC ι PA → ι 8 0 4 = tl → ι 8 0 6 = cm → (∀ k, 0 ≤ k → k < 2240 → ι 64 0 k = g k) → (∀ n, 4 ≤ n → n ≤ 10 → ι 65 0 n = c n) → Jw ι → (∀ ι' : bm_S, cR ι' β lim p2 r3 → SC ι' lim 0 (fun _ => 0) rg0 PA 0 wn g c → ι' 8 0 15 = 0 → TD ι' tl cm 0 W0 → Fr fAl ι ι' → bW sc 69 10 [br 8 0, bi 0, bu] [] ι' Q) → bC sc 69 [br 8 0] ι Q := by
    intro ι Q hl hb hs hP h4 h6 hwg hwc hJ h
    refine e_O_openAll_0 (s_begin hl ⟨hlim.1, hlim.2.1⟩ hs (fun ι1 b1 b2 b3 b4 b5 b6 b7 b8 F1 => ?_))
    have R1 : cR ι1 β lim 0 0 := ⟨b1, b2, b3, fun q x y => by rw [show ι1 20 0 = ι 20 0 from funext fun k => F1 20 0 k (by omega)]; exact hb q x y⟩
    refine e_O_readSpan_0 (i6 ι1 _ _ R1 (fun ι2 x2 F2 => ?_))
    have J2 : Jw ι2 := (hJ.to F1 (fun j => by omega)).to F2 (fun j => by omega)
    refine s_digestOfAll J2 ?_
    have e : dg (ι2 64 0) (ι2 65 0) = D := by rw [hD]; exact dg_c (fun k x y => by rw [F2 64 0 k (by omega), F1 64 0 k (by omega)]; exact hwg k x y) (fun k x y => by rw [F2 65 0 k (by omega), F1 65 0 k (by omega)]; exact hwc k x y) hg hc
    rw [e]
    have fin : ∀ ι3 : bm_S, Fr fR ι1 ι3 → ∀ ι4 : bm_S, cR ι4 β lim p2 r3 → ι4 8 0 13 = wn → Fr fSp ι3 ι4 → bW sc 69 10 [br 8 0, bi 0, bu] [] ι4 Q := fun ι3 F3 ι4 y1 y2 F4 => by
      have F5 : Fr fSp ι1 ι4 := (F3.wide fun t i j q => Or.inl q).trans F4
      refine h ι4 y1 ⟨by rw [F5 2 1 1 (by omega)]; exact b4, fun k x y => by omega, fun k x y => by rw [F5 51 0 k (by omega)]; exact b5 k x y, (hP.fr F1 (fun j => by omega)).fr F5 (fun j => by omega), by rw [F5 8 0 3 (by omega)]; exact b6, y2, fun k x y => by rw [F5 64 0 k (by omega), F1 64 0 k (by omega)]; exact hwg k x y, fun k x y => by rw [F5 65 0 k (by omega), F1 65 0 k (by omega)]; exact hwc k x y, by rw [F5 2 0 1 (by omega), F1 2 0 1 (by omega)]; exact hl⟩ (by rw [F5 8 0 15 (by omega)]; exact b8) ⟨by rw [F5 8 0 4 (by omega), F1 8 0 4 (by omega)]; exact h4, by rw [F5 8 0 6 (by omega), F1 8 0 6 (by omega)]; exact h6, by rw [F5 8 0 5 (by omega)]; exact b7, fun e => by omega⟩ ((F1.wide al_Bg).trans (F5.wide fun t i j q => Or.inl (al_Sp t i j q)))
    refine bif_i (fun c1 => ?_) (fun c1 => ?_)
    · have e2 : r2 = r1 := by rw [hr2]; by_cases q : r1 = 0
                              · rw [if_neg (by omega), if_pos c1, q]
                              · rw [if_pos q]
      exact j6 ι2 (fun ι4 => bW sc 69 10 [br 8 0, bi 0, bu] [] ι4 Q) (bq Q) (by rw [e2]; exact x2) (fin ι2 F2)
    · refine s_broken (fun q => ?_) (fun q => ?_)
      · have q := x2.2.2.1.symm.trans q
        have F3 : Fr fR ι2 (up ι2 0 0 3 2) := (Fr.refl _ _).u (by omega)
        exact j6 (up ι2 0 0 3 2) (fun ι4 => bW sc 69 10 [br 8 0, bi 0, bu] [] ι4 Q) (bq Q) (x2.fr F3 (fun j => by omega) (by simp (disch := omega) only [up_s, up_k, up_j, up_i]; exact x2.1) (by simp (disch := omega) only [up_s, up_k, up_j, up_i]; rw [hr2, if_neg (by omega), if_neg c1])) (fin _ (F2.trans F3))
      · have q : r1 ≠ 0 := fun z => q (x2.2.2.1.trans z)
        exact j6 ι2 (fun ι4 => bW sc 69 10 [br 8 0, bi 0, bu] [] ι4 Q) (bq Q) (by rw [hr2, if_pos q]; exact x2) (fin ι2 F2)
  have goM : ∀ (ι : bm_S) (Q : bm_O → bm_S → Prop), mR ι β lim 0 → (∀ k, 0 ≤ k → k < 2240 → ι 68 0 k = g k) → (∀ n, 4 ≤ n → n ≤ 10 → ι 69 0 n = c n) → (r3 = 0 → ∀ ι' : bm_S, mR ι' β lim p2 → ι' 13 0 42 = wn → Fr gSp ι ι' → bW sc 222 24 [br 13 0, bi 0, bu] [] ι' Q) → (r3 ≠ 0 → ∀ ι' : bm_S, mR ι' β lim p2 → ι' 12 0 6 = r3 → Fr gR ι ι' → bq Q (12, 0) ι') → bC sc 222 [br 13 0] ι Q := by
    intro ι Q hR hwg hwc h hh
    refine e_M_readAll_0 (i7 ι _ _ hR (fun e1 ι1 x1 F1 => ?_) (fun e1 ι1 x1 y1 F1 => ?_))
    · have hc1 : ∀ n, 4 ≤ n → n ≤ 10 → 0 ≤ ι1 69 0 n ∧ ι1 69 0 n ≤ 32 := fun n x y => by rw [F1 69 0 n (by omega), hwc n x y]; exact hc n x y
      refine m_digestNow hc1 ?_
      have e : dg (ι1 68 0) (ι1 69 0) = D := by rw [hD]; exact dg_c (fun k x y => by rw [F1 68 0 k (by omega)]; exact hwg k x y) (fun k x y => by rw [F1 69 0 k (by omega)]; exact hwc k x y) hg hc
      rw [e]
      refine bif_i (fun c1 => ?_) (fun c1 => ?_)
      · have e2 : r2 = 0 := by rw [hr2, if_neg (by omega), if_pos c1]
        exact j7 e2 ι1 _ _ x1 (fun e3 ι2 x2 y2 F2 => h e3 ι2 x2 y2 ((F1.wide fun t i j q => Or.inl q).trans F2)) (fun e3 ι2 x2 y2 F2 => hh e3 ι2 x2 y2 (F1.trans F2))
      · have e2 : r2 = 2 := by rw [hr2, if_neg (by omega), if_neg c1]
        have q := j3 (by omega)
        have F2 : Fr gR ι1 (up ι1 12 0 6 2) := (Fr.refl _ _).u (by omega)
        exact m_fail (hh (by omega) _ (by rw [q.2]; exact x1.fr F2 (fun j => by omega) (by simp (disch := omega) only [up_s, up_k, up_j, up_i]; exact x1.1)) (by simp (disch := omega) only [up_s, up_k, up_j, up_i]; omega) (F1.trans F2))
    · have e2 : r2 = r1 := by rw [hr2, if_pos e1]
      have q := j3 (by omega)
      exact hh (by omega) ι1 (by rw [q.2]; exact x1) (by omega) F1
  by_cases hr : r3 = 0
  · have hr20 : r2 = 0 := by
      by_cases e : r2 = 0
      · exact e
      · have := j3 e; omega
    have hr10 : r1 = 0 := by
      by_cases e : r1 = 0
      · exact e
      · rw [if_pos e] at hr2; omega
    have hp16 : p1 = 16 := by omega
    obtain ⟨p', r, s', f', rg', PA', pc', tl', cm', has', W', k1, k2, k3, k4, k5, k6, k7⟩ := j_loop (sc := sc) (wn := wn) (g := g) (c := c) hw ((lim - p2).toNat + 1) 0 (fun _ => 0) rg0 PA 0 tl cm 0 W0 p2 0 (by omega) (by omega) ⟨by omega, j5, hg, hc⟩ hT0 (fun k x y => by omega) rg0_rg (by omega) (by omega) (by omega) j2
    refine ⟨p', r, s', f', rg', PA', pc', tl', cm', has', W', by omega, k2, k3, k4, k5, ?_, ?_⟩
    · intro ι K H hl hb hs hP h4 h6 hwg hwc hJ h
      refine goC ι _ hl hb hs hP h4 h6 hwg hwc hJ (fun ι1 x1 x2 x3 x4 F1 => ?_)
      rw [hr] at x1
      exact k6 ι1 K H bu x1 x2 x3 x4 (fun ι2 z => h ι2 ⟨z.1, z.2.1, z.2.2.1, z.2.2.2.1, z.2.2.2.2.1, z.2.2.2.2.2.1, z.2.2.2.2.2.2.1, F1.trans (z.2.2.2.2.2.2.2.wide fun t i j q => Or.inl q)⟩)
    · intro ι K H hR h6 h77 hP h19 h33 hwg hwc h hh
      refine goM ι _ hR hwg hwc (fun _ ι1 x1 x2 F1 => ?_) (fun e => absurd hr e)
      have S1 : SM ι1 0 (fun _ => 0) rg0 PA 0 wn g c := ⟨by rw [F1 13 0 6 (by omega)]; exact h6, fun k x y => by omega, fun k x y => by rw [F1 77 0 (3 - k) (by omega)]; exact h77 k x y, hP.fr F1 (fun j => by omega), by rw [F1 13 0 19 (by omega)]; exact h19, x2, fun k x y => by rw [F1 68 0 k (by omega)]; exact hwg k x y, fun k x y => by rw [F1 69 0 k (by omega)]; exact hwc k x y⟩
      have F1' := F1.wide gp_Sp
      exact k7 ι1 _ bu x1 S1 ⟨by rw [F1 13 0 33 (by omega)]; exact h33, fun e => by omega⟩ (fun e ι2 z => h e ι2 z.1 z.2.1.1 z.2.1.2.1 z.2.1.em z.2.1.2.2.2.2.1 z.2.2.1 (F1'.trans z.2.2.2)) (fun e ι2 z => hh e ι2 z.1 z.2.1 z.2.2.1 z.2.2.2.1 z.2.2.2.2.1 (F1'.trans z.2.2.2.2.2))
  · refine ⟨p2, r3, 0, fun _ => 0, rg0, PA, 0, tl, cm, 0, W0, by omega, j4, fun e => absurd e hr, by omega, hT0, ?_, ?_⟩
    · intro ι K H hl hb hs hP h4 h6 hwg hwc hJ h
      refine goC ι _ hl hb hs hP h4 h6 hwg hwc hJ (fun ι1 x1 x2 x3 x4 F1 => ?_)
      have hne : ι1 0 0 3 ≠ 0 := by rw [x1.2.2.1]; exact hr
      have fin : bC sc 71 [br 8 0] ι1 (bk1 (fun r ι => K r ι) (bq (bk1 K H))) := by
        refine s_finish_err (by omega) (by omega) x1 (by rw [x2.1]; omega) (fun ι2 y1 y2 F2 => ?_)
        have := h ι2 ⟨y1, by rw [if_neg hr]; exact y2, fun q => absurd q hr, fun k x y => by rw [F2 51 0 k (by omega)]; exact x2.2.2.1 k x y, x2.2.2.2.1.fr F2 (fun j => by omega), by rw [F2 8 0 3 (by omega)]; exact x2.2.2.2.2.1, x4.fr hT0 F2 (fun i j => by omega), F1.trans (F2.wide fun t i j q => Or.inl (op_Rw t i j (Or.inr q)))⟩
        rw [if_neg hr] at this
        exact this
      exact e_O_openAll_10 (bif_f (by omega) (bif_t x3 (s_fine (fun e => absurd e hne) (fun _ => bif_t rfl fin))))
    · intro ι K H hR h6 h77 hP h19 h33 hwg hwc h hh
      exact goM ι _ hR hwg hwc (fun e => absurd e hr) (fun e ι1 x1 y1 F1 => hh e ι1 x1 y1 ⟨fun k x y => by rw [F1 77 0 (3 - k) (by omega)]; exact h77 k x y, hP.fr F1 (fun j => by omega)⟩ (by rw [F1 13 0 19 (by omega)]; exact h19) ⟨by rw [F1 13 0 33 (by omega)]; exact h33, fun e => by omega⟩ (F1.wide gp_R))
end All
