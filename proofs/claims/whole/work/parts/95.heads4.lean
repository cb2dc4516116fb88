/-! the heads of a part: all of them, in one bundle -/
section Heads4
variable {sc : bm_Sc} {β : Int → Int} {lim : Int}
theorem codeM_at {ι : bm_S} {st lone s : Int} {L : Int → Int} {a : Nat} (h : CodeM ι st lone L a) (h0 : 0 ≤ s) (h1 : s < a) : ι 71 0 (st + s) = L s := by
  obtain ⟨n, rfl⟩ := Int.eq_ofNat_of_zero_le h0
  exact (h.2 n (by omega)).1
/-- what the heads say: 0 kinds, 1 to 4 the codes of kinds and counts, 5 form and trees, 6 modes, 7 and 8 maps, 9 to 12 codes -/
def mkW (kd lk lc : Int → Int) (Lk Lc : Int → Int → Int) (pf dr n0 tr : Int) (D M0 M : Int → Int) (LO : Int → Int → Int) (LL : Int → Int → Int → Int) : bm_S
  | 0, q, _ => kd q
  | 1, q, _ => lk q
  | 2, q, j => Lk q j
  | 3, q, _ => lc q
  | 4, q, j => Lc q j
  | 5, _, j => if j = 0 then pf else if j = 1 then dr else if j = 2 then n0 else tr
  | 6, _, j => D j
  | 7, _, j => M0 j
  | 8, _, j => M j
  | 9, q, t => LO q t
  | 10, t, s => LL 0 t s
  | 11, t, s => LL 1 t s
  | _, t, s => LL 2 t s
def WLL (W : bm_S) : Int → Int → Int → Int := t3 (W 10) (W 11) (W 12)
def Wa (W : bm_S) : Nat := (16 + W 5 0 1 + 48 * bm_p2 (W 5 0 0)).toNat
def HO (W : bm_S) : Prop := (∀ q, 0 ≤ q → q < 3 → (1 ≤ W 0 q 0 ∧ W 0 q 0 ≤ 12) ∧ KO (W 0 q 0) (W 1 q 0) (W 2 q) (W 3 q 0) (W 4 q)) ∧ (0 ≤ W 5 0 0 ∧ W 5 0 0 < 4) ∧ (0 ≤ W 5 0 1 ∧ W 5 0 1 ≤ 120) ∧ (1 ≤ W 5 0 2 ∧ W 5 0 2 ≤ 12) ∧ (1 ≤ W 5 0 3 ∧ W 5 0 3 ≤ 12) ∧ (∀ j, 0 ≤ W 6 0 j ∧ W 6 0 j < 4) ∧ (∀ j, 0 ≤ j → j < 768 → 0 ≤ W 7 0 j ∧ W 7 0 j < W 5 0 2) ∧ (∀ j, 0 ≤ j → j < 48 → 0 ≤ W 8 0 j ∧ W 8 0 j < W 5 0 3) ∧ CdO (W 5 0 2) (W 0 1 0) (W 5 0 3) (W 9) (WLL W) (Wa W)
/-- what is told, in the layout tl; the model's copy of it -/
def TC (ι : bm_S) (tl : Int) (W : bm_S) : Prop := (∀ q, 0 ≤ q → q < 3 → ι 43 tl q = W 0 q 0) ∧ ι 7 tl 8 = W 5 0 0 ∧ ι 7 tl 9 = W 5 0 1 ∧ ι 44 tl 0 = W 5 0 2 ∧ ι 44 tl 1 = W 5 0 3 ∧ (∀ j, 0 ≤ j → j < W 0 0 0 → ι 45 tl j = W 6 0 j) ∧ (∀ j, 0 ≤ j → j < 768 → ι 46 tl j = W 7 0 j) ∧ (∀ j, 0 ≤ j → j < 48 → ι 47 tl j = W 8 0 j) ∧ CdC ι tl (W 5 0 2) (W 0 1 0) (W 5 0 3) (W 9) (WLL W) (Wa W)
def TM (ι : bm_S) (W : bm_S) : Prop := ι 13 0 35 = W 5 0 2 ∧ ι 13 0 36 = W 5 0 3 ∧ ι 13 0 37 = Wa W ∧ (∀ q, 0 ≤ q → q < 3 → ι 85 0 q = W 0 q 0) ∧ (∀ j, 0 ≤ j → j < 768 → ι 87 0 j = W 7 0 j) ∧ (∀ j, 0 ≤ j → j < 48 → ι 88 0 j = W 8 0 j) ∧ (∀ t s : Int, 0 ≤ t → t < W 5 0 2 → 0 ≤ s → s < 256 → ι 86 0 (120 + 256 * t + s) = W 10 t s) ∧ (∀ t s : Int, 0 ≤ t → t < W 0 1 0 → 0 ≤ s → s < 704 → ι 86 0 (3192 + 704 * t + s) = W 11 t s) ∧ (∀ t s : Int, 0 ≤ t → t < W 5 0 3 → 0 ≤ s → s < Wa W → ι 86 0 (11640 + 520 * t + s) = W 12 t s)
/-- what is read with -/
def HC (ι : bm_S) (tl : Int) (W : bm_S) : Prop := ι 8 0 4 = tl ∧ TC ι tl W ∧ ∀ q, 0 ≤ q → q < 3 → KcC ι q (W 0 q 0) (W 1 q 0) (W 2 q) (W 3 q 0) (W 4 q)
def HM (ι : bm_S) (W : bm_S) : Prop := ι 13 0 22 = W 5 0 0 ∧ ι 13 0 23 = W 5 0 1 ∧ (∀ j, 0 ≤ j → j < W 0 0 0 → ι 82 0 j = W 6 0 j) ∧ (∀ j, 0 ≤ j → j < 768 → ι 83 0 j = W 7 0 j) ∧ (∀ j, 0 ≤ j → j < 48 → ι 84 0 j = W 8 0 j) ∧ CdM ι (W 5 0 2) (W 0 1 0) (W 5 0 3) (W 9) (WLL W) (Wa W) ∧ ∀ q, 0 ≤ q → q < 3 → KcM ι q (W 0 q 0) (W 1 q 0) (W 2 q) (W 3 q 0) (W 4 q)
abbrev fHd (cm : Int) (t : Nat) (i j : Int) : Prop := f2 cm t i j ∨ fKq 0 cm t i j
abbrev gHd (t : Nat) (i j : Int) : Prop := g2 t i j ∨ gKq 0 t i j ∨ t = 83 ∨ t = 84
theorem mkW5 {kd lk lc : Int → Int} {Lk Lc : Int → Int → Int} {pf dr n0 tr : Int} {D M0 M : Int → Int} {LO : Int → Int → Int} {LL : Int → Int → Int → Int} : mkW kd lk lc Lk Lc pf dr n0 tr D M0 M LO LL 5 0 0 = pf ∧ mkW kd lk lc Lk Lc pf dr n0 tr D M0 M LO LL 5 0 1 = dr ∧ mkW kd lk lc Lk Lc pf dr n0 tr D M0 M LO LL 5 0 2 = n0 ∧ mkW kd lk lc Lk Lc pf dr n0 tr D M0 M LO LL 5 0 3 = tr := ⟨rfl, rfl, rfl, rfl⟩
/-- the heads of a part -/
theorem j_heads (hw : wfβ β lim) {cm tl pc : Int} (hcm : cm = 0 ∨ cm = 1) (htl : tl = 0 ∨ tl = 1) (hpc : 0 ≤ pc) (PA : Int → Int) (hz : 1 ≤ pc → pc ≤ 60 → PA (12 * (pc - 1) + 7) = 0 ∧ PA (12 * (pc - 1) + 8) = 0) (p : Int) (hp0 : 0 ≤ p) (hp1 : p ≤ lim) :
    ∃ (p' r : Int) (W : bm_S) (lf PA' : Int → Int), p ≤ p' ∧ p' ≤ lim ∧ (r = 0 ∨ 0 < r ∧ r < 18) ∧ (∀ w, 9 ≤ w → PA' (12 * (pc - 1) + w) = PA (12 * (pc - 1) + w)) ∧ (r = 0 → HO W ∧ ∀ q, 0 ≤ q → q < 3 → KW (W 0 q 0) 0 1 (lf q)) ∧
    (∀ (ι : bm_S) (K : bm_S → Prop) (H : Nat × Int → bm_S → Prop), cR ι β lim p 0 → ι 8 0 3 = pc → ι 8 0 6 = cm → ι 8 0 4 = tl → PaC ι PA → (∀ ι' : bm_S, cR ι' β lim p' r → PaC ι' PA' → (r = 0 → HC ι' cm W ∧ (∀ q, 0 ≤ q → q < 3 → KC ι' q (W 0 q 0) 0 1 (lf q)) ∧ ι' 8 0 6 = tl ∧ ι' 8 0 5 = 1) → (r ≠ 0 → ι' 8 0 4 = tl ∧ ι' 8 0 6 = cm ∧ ι' 8 0 5 = ι 8 0 5) → Fr (fHd cm) ι ι' → K ι') →
      bC sc 81 [br 8 0, bi 0] ι (bk0 (fun ι6 => bC sc 81 [br 8 0, bi 1] ι6 (bk0 (fun ι7 => bC sc 81 [br 8 0, bi 2] ι7 (bk0 (fun ι8 => bC sc 82 [br 8 0] ι8 (bk0 (fun ι9 => bC sc 83 [br 8 0, bi 0] ι9 (bk0 (fun ι10 => bC sc 83 [br 8 0, bi 1] ι10 (bk0 (fun ι11 => bC sc 86 [br 8 0] ι11 (bk0 K H)) H)) H)) H)) H)) H)) H)) ∧
    (∀ (ι : bm_S) (K : bm_S → Prop) (H : Nat × Int → bm_S → Prop), mR ι β lim p → ι 13 0 19 = pc → PaM ι PA → (r = 0 → ∀ ι' : bm_S, mR ι' β lim p' → PaM ι' PA' → HM ι' W → TM ι' W → ι' 13 0 33 = 1 → (∀ q, 0 ≤ q → q < 3 → KM ι' q (W 0 q 0) 0 1 (lf q)) → Fr (fun t i j => gHd t i j ∨ gKe t i j) ι ι' → K ι') → (r ≠ 0 → ∀ ι' : bm_S, mR ι' β lim p' → ι' 12 0 6 = r → PaM ι' PA' → Fr gHd ι ι' → H (12, 0) ι') → bC sc 198 [br 13 0] ι (bk0 K H)) := by
  obtain ⟨p1, r1, kd, lf, lk, lc, Lk, Lc, PA1, i1, i2, i3, i4, i5, i6, i7⟩ := j_kinds (sc := sc) (cm := cm) hw hpc 3 0 PA p (by omega) (by omega) hp0 hp1
  have hz1 : 1 ≤ pc → pc ≤ 60 → PA1 (12 * (pc - 1) + 7) = 0 ∧ PA1 (12 * (pc - 1) + 8) = 0 := fun a b => ⟨(i5 7 (by omega)).trans (hz a b).1, (i5 8 (by omega)).trans (hz a b).2⟩
  by_cases hr : r1 = 0
  · have i4 := i4 hr
    have w0 := (i4 0 (by omega) (by omega)).1.1
    have w1 := (i4 1 (by omega) (by omega)).1.1
    have w2 := (i4 2 (by omega) (by omega)).1.1
    obtain ⟨p2, r2, pf, dk, n0, tr, D, M0, M, PA2, LO, LL, a, k1, k2, k3, kP, k4, k5, k6, k7, k8, k9, k10⟩ := j_h2 (sc := sc) hw w0 w2 hcm htl w1 hpc PA1 hz1 p1 (by omega) i2
    have hd := rg_form k4 k5
    refine ⟨p2, r2, mkW kd lk lc Lk Lc pf (dk * bm_p2 pf) n0 tr D M0 M LO LL, lf, PA2, by omega, k2, k3, fun w hw => (kP w hw).trans (i5 w (by omega)), fun e => ?_, ?_, ?_⟩
    · obtain ⟨x1, x2, x3, x4, x5⟩ := k8 e
      refine ⟨⟨fun q a b => ⟨(i4 q a b).1.1, (i4 q a b).2⟩, k4, hd, x1, x3, k6, x2, x4, ?_⟩, fun q a b => (i4 q a b).1⟩
      have ea : Wa (mkW kd lk lc Lk Lc pf (dk * bm_p2 pf) n0 tr D M0 M LO LL) = a := by
        show (16 + dk * bm_p2 pf + 48 * bm_p2 pf).toNat = a
        omega
      rw [ea]
      exact ⟨x5.1, x5.2.1, x5.2.2⟩
    rotate_left 1
    · intro ι K H hR e19 hP h hh
      refine e_M_readHeads_0 (m_noMaps fun ι0 z0 z1 F0 => ?_)
      refine i7 ι0 _ (hR.fr F0 (fun j => by omega) (by rw [F0 13 0 16 (by omega)]; exact hR.1)) (by rw [F0 13 0 19 (by omega)]; exact e19) (hP.fr F0 (fun j => by omega)) (fun _ ι1 a1 b1 c1 F1 => ?_) (fun e => absurd hr e)
      refine k10 ι1 _ a1 (by rw [F1 13 0 19 (by omega), F0 13 0 19 (by omega)]; exact e19) (c1 0 (by omega) (by omega)).1.1 (c1 2 (by omega) (by omega)).1.1 (c1 1 (by omega) (by omega)).1.1 b1 (fun j x y => by rw [F1 83 0 j (by omega)]; exact z0 j x y) (fun j x y => by rw [F1 84 0 j (by omega)]; exact z1 j x y) (fun e ι2 a2 b2 y22 y23 y82 y29 y83 y30 y84 yc yk y37 F2 => ?_) (fun e ι2 a2 b2 c2 F2 => hh e ι2 a2 b2 c2 (((F0.wide fun t i j q => Or.inr (Or.inr q)).trans (F1.wide fun t i j q => Or.inr (Or.inl q))).trans (F2.wide fun t i j q => Or.inl q)))
      have c2 : ∀ q, 0 ≤ q → q < 3 → KM ι2 q (kd q) 0 1 (lf q) ∧ KcM ι2 q (kd q) (lk q) (Lk q) (lc q) (Lc q) := fun q a b => by
        obtain ⟨u, v⟩ := c1 q a b
        refine ⟨⟨?_, ?_, ?_, ?_⟩, v.fr F2 (i4 q a b).1.1.2 (fun j hj => by omega)⟩
        · rw [F2 78 0 q (by omega)]; exact u.1
        · rw [F2 79 0 q (by omega)]; exact u.2.1
        · rw [F2 80 0 q (by omega)]; exact u.2.2.1
        · rw [F2 81 0 q (by omega)]; exact u.2.2.2
      have ea : Wa (mkW kd lk lc Lk Lc pf (dk * bm_p2 pf) n0 tr D M0 M LO LL) = a := by
        show (16 + dk * bm_p2 pf + 48 * bm_p2 pf).toNat = a
        omega
      have hp2 := p2_3 k4
      obtain ⟨v33, v35, v36, v85, v86, v87, v88⟩ := yk
      refine h e ι2 a2 b2 ⟨y22, y23, y82, y83, y84, ?_, fun q a b => (c2 q a b).2⟩ ⟨by rw [v35, y29]; rfl, by rw [v36, y30]; rfl, by rw [ea]; exact y37, fun q a b => by rw [v85 q a b]; exact (c2 q a b).1.1, fun j x y => by rw [v87 j x y]; exact y83 j x y, fun j x y => by rw [v88 j x y]; exact y84 j x y, ?_, ?_, ?_⟩ v33 (fun q a b => (c2 q a b).1) (((F0.wide fun t i j q => Or.inl (Or.inr (Or.inr q))).trans (F1.wide fun t i j q => Or.inl (Or.inr (Or.inl q)))).trans (F2.wide fun t i j q => q.elim (fun q => Or.inl (Or.inl q)) Or.inr))
      · rw [ea]; exact ⟨yc.1, yc.2.1, yc.2.2⟩
      · intro t s x1 x2 x3 x4
        have x2 : t < n0 := x2
        obtain ⟨x5, -⟩ := k8 e
        rw [v86 _ (by omega) (by omega)]
        exact codeM_at (yc.1 t x1 x2) x3 x4
      · intro t s x1 x2 x3 x4
        have x2 : t < kd 1 := x2
        rw [v86 _ (by omega) (by omega)]
        exact codeM_at (yc.2.1 t x1 x2) x3 x4
      · intro t s x1 x2 x3 x4
        have x2 : t < tr := x2
        obtain ⟨-, -, x5, -⟩ := k8 e
        rw [ea] at x4
        rw [v86 _ (by omega) (by omega)]
        exact codeM_at (yc.2.2 t x1 x2) x3 x4
    intro ι K H hR h3 h6 h4 hP h
    refine i6 ι _ _ hR h3 h6 hP (fun ι1 a1 b1 c1 F1 => ?_)
    rw [hr] at a1
    have c1 := c1 hr
    refine k9 ι1 _ _ a1 (by rw [F1 8 0 3 (by omega)]; exact h3) (by rw [F1 8 0 6 (by omega)]; exact h6) (by rw [F1 8 0 4 (by omega)]; exact h4) (c1 0 (by omega) (by omega)).1 (c1 2 (by omega) (by omega)).1 (c1 1 (by omega) (by omega)).1 b1 (fun ι2 a2 b2 c2 d2 F2 => ?_)
    refine h ι2 a2 b2 (fun e => ?_) (fun e => ?_) ((F1.wide fun t i j q => Or.inr q).trans (F2.wide fun t i j q => Or.inl q))
    · obtain ⟨⟨y1, y2, y3⟩, y4, y5, y6, y7, y8, y9, y10, y11⟩ := c2 e
      have ea : Wa (mkW kd lk lc Lk Lc pf (dk * bm_p2 pf) n0 tr D M0 M LO LL) = a := by
        show (16 + dk * bm_p2 pf + 48 * bm_p2 pf).toNat = a
        omega
      refine ⟨⟨y9, ⟨fun q a b => by rw [F2 43 cm q (by omega)]; exact (c1 q a b).1, y1, y2, y4, y6, y3, y5, y7, ?_⟩, fun q a b => (c1 q a b).2.2.fr F2 (fun c hc j => by omega)⟩, fun q a b => ?_, y10, y11⟩
      · rw [ea]; exact ⟨y8.1, y8.2.1, y8.2.2⟩
      · have u := (c1 q a b).2.1
        refine ⟨?_, ?_, ?_, ?_⟩
        · rw [F2 1 q 2 (by omega)]; exact u.1
        · rw [F2 1 q 3 (by omega)]; exact u.2.1
        · rw [F2 1 q 4 (by omega)]; exact u.2.2.1
        · rw [F2 1 q 5 (by omega)]; exact u.2.2.2
    · have := d2 e
      rw [F1 8 0 5 (by omega)] at this
      exact this
  · refine ⟨p1, r1, fun _ _ _ => 0, lf, PA1, i1, i2, i3, fun w hw => i5 w (by omega), fun e => absurd e hr, ?_, ?_⟩
    rotate_left 1
    · intro ι K H hR e19 hP h hh
      refine e_M_readHeads_0 (m_noMaps fun ι0 z0 z1 F0 => ?_)
      exact i7 ι0 _ (hR.fr F0 (fun j => by omega) (by rw [F0 13 0 16 (by omega)]; exact hR.1)) (by rw [F0 13 0 19 (by omega)]; exact e19) (hP.fr F0 (fun j => by omega)) (fun e => absurd e hr) (fun e ι1 a1 b1 c1 F1 => hh e ι1 a1 b1 c1 ((F0.wide fun t i j q => Or.inr (Or.inr q)).trans (F1.wide fun t i j q => Or.inr (Or.inl q))))
    intro ι K H hR h3 h6 h4 hP h
    refine i6 ι _ _ hR h3 h6 hP (fun ι1 a1 b1 c1 F1 => ?_)
    refine s_form_err (pc := pc) (cm := cm) (PA := PA1) hpc hz1 a1 hr (by rw [F1 8 0 3 (by omega)]; exact h3) (by rw [F1 8 0 6 (by omega)]; exact h6) b1 (fun ι2 a2 b2 F2 => ?_)
    exact s_h3_err (by rw [a2.2.2.1]; exact hr) (h ι2 a2 b2 (fun e => absurd e hr) (fun _ => ⟨by rw [F2 8 0 4 (by omega), F1 8 0 4 (by omega)]; exact h4, by rw [F2 8 0 6 (by omega), F1 8 0 6 (by omega)]; exact h6, by rw [F2 8 0 5 (by omega), F1 8 0 5 (by omega)]⟩) ((F1.wide fun t i j q => Or.inr q).trans (F2.wide fun t i j q => Or.inl (Or.inr q))))
end Heads4
