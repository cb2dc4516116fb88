/-! the heads of a part: form, kinds, all -/
section Heads3
variable {sc : bm_Sc} {β : Int → Int} {lim : Int}
/-- form, both maps and the codes -/
theorem j_h2 (hw : wfβ β lim) {kd0 kd2 n1 cm tl pc : Int} (hkd0 : 1 ≤ kd0 ∧ kd0 ≤ 12) (hkd : 1 ≤ kd2 ∧ kd2 ≤ 12) (hcm : cm = 0 ∨ cm = 1) (htl : tl = 0 ∨ tl = 1) (hn1 : 1 ≤ n1 ∧ n1 ≤ 12) (hpc : 0 ≤ pc) (PA : Int → Int) (hz : 1 ≤ pc → pc ≤ 60 → PA (12 * (pc - 1) + 7) = 0 ∧ PA (12 * (pc - 1) + 8) = 0) (p : Int) (hp0 : 0 ≤ p) (hp1 : p ≤ lim) :
    ∃ (p' r pf dk n0 tr : Int) (D M0 M PA' : Int → Int) (LO : Int → Int → Int) (LL : Int → Int → Int → Int) (a : Nat), p ≤ p' ∧ p' ≤ lim ∧ (r = 0 ∨ 0 < r ∧ r < 18) ∧ (∀ w, 9 ≤ w → PA' (12 * (pc - 1) + w) = PA (12 * (pc - 1) + w)) ∧ (0 ≤ pf ∧ pf < 4) ∧ (0 ≤ dk ∧ dk < 16) ∧ (∀ j, 0 ≤ D j ∧ D j < 4) ∧ (a : Int) = 16 + dk * bm_p2 pf + 48 * bm_p2 pf ∧ (r = 0 → (1 ≤ n0 ∧ n0 ≤ 12) ∧ (∀ j, 0 ≤ j → j < 768 → 0 ≤ M0 j ∧ M0 j < n0) ∧ (1 ≤ tr ∧ tr ≤ 12) ∧ (∀ j, 0 ≤ j → j < 48 → 0 ≤ M j ∧ M j < tr) ∧ CdO n0 n1 tr LO LL a) ∧
    (∀ (ι : bm_S) (K : bm_S → Prop) (H : Nat × Int → bm_S → Prop), cR ι β lim p 0 → ι 8 0 3 = pc → ι 8 0 6 = cm → ι 8 0 4 = tl → ι 43 cm 0 = kd0 → ι 43 cm 2 = kd2 → ι 43 cm 1 = n1 → PaC ι PA → (∀ ι' : bm_S, cR ι' β lim p' r → PaC ι' PA' → (r = 0 → (ι' 7 cm 8 = pf ∧ ι' 7 cm 9 = dk * bm_p2 pf ∧ ∀ j, 0 ≤ j → j < kd0 → ι' 45 cm j = D j) ∧ ι' 44 cm 0 = n0 ∧ (∀ j, 0 ≤ j → j < 768 → ι' 46 cm j = M0 j) ∧ ι' 44 cm 1 = tr ∧ (∀ j, 0 ≤ j → j < 48 → ι' 47 cm j = M j) ∧ CdC ι' cm n0 n1 tr LO LL a ∧ ι' 8 0 4 = cm ∧ ι' 8 0 6 = tl ∧ ι' 8 0 5 = 1) → (r ≠ 0 → ι' 8 0 4 = tl ∧ ι' 8 0 6 = cm ∧ ι' 8 0 5 = ι 8 0 5) → Fr (f2 cm) ι ι' → K ι') → bC sc 82 [br 8 0] ι (bk0 (fun ι9 => bC sc 83 [br 8 0, bi 0] ι9 (bk0 (fun ι0 => bC sc 83 [br 8 0, bi 1] ι0 (bk0 (fun ι1 => bC sc 86 [br 8 0] ι1 (bk0 K H)) H)) H)) H)) ∧
    (∀ (ι : bm_S) (Q : bm_O → bm_S → Prop), mR ι β lim p → ι 13 0 19 = pc → ι 78 0 0 = kd0 → ι 78 0 2 = kd2 → ι 78 0 1 = n1 → PaM ι PA → (∀ j, 0 ≤ j → j < 768 → ι 83 0 j = 0) → (∀ j, 0 ≤ j → j < 48 → ι 84 0 j = 0) → (r = 0 → ∀ ι' : bm_S, mR ι' β lim p' → PaM ι' PA' → ι' 13 0 22 = pf → ι' 13 0 23 = dk * bm_p2 pf → (∀ j, 0 ≤ j → j < kd0 → ι' 82 0 j = D j) → ι' 13 0 29 = n0 → (∀ j, 0 ≤ j → j < 768 → ι' 83 0 j = M0 j) → ι' 13 0 30 = tr → (∀ j, 0 ≤ j → j < 48 → ι' 84 0 j = M j) → CdM ι' n0 n1 tr LO LL a → KeM ι' → ι' 13 0 37 = a → Fr (fun t i j => g2 t i j ∨ gKe t i j) ι ι' → Q (.inl none) ι') → (r ≠ 0 → ∀ ι' : bm_S, mR ι' β lim p' → ι' 12 0 6 = r → PaM ι' PA' → Fr g2 ι ι' → bq Q (12, 0) ι') →
      bW sc 198 6 [br 13 0, bi 3] [] ι Q) := by
  obtain ⟨p1, r1, pf, dk, D, PA1, i1, i2, i3, i4, i5, i6, iP, i7, i8⟩ := j_form (sc := sc) hw hkd0 pc cm hpc PA hz p hp0 hp1
  have hPA : ∀ w, 9 ≤ w → PA1 (12 * (pc - 1) + w) = PA (12 * (pc - 1) + w) := fun w hw => by
    rw [iP, nt_far (by omega), nt_far (by omega)]
  have hd := rg_form i4 i5
  by_cases hr : r1 = 0
  · obtain ⟨p2, r2, n0, tr, M0, M, PA2, LO, LL, a, k1, k2, k3, kP, k4, k5, k6, k7⟩ := j_h3 (sc := sc) hw hkd0 hkd hcm htl hn1 i4 hd hpc PA1 p1 (by omega) i2
    refine ⟨p2, r2, pf, dk, n0, tr, D, M0, M, PA2, LO, LL, a, by omega, k2, k3, fun w hw => (kP w hw).trans (hPA w hw), i4, i5, i6, k4, k5, ?_, ?_⟩
    rotate_left 1
    · intro ι Q hR e19 e0 e2 e1 hP hz0 hz h hh
      refine e_M_readHeads_6 (bif_t (by omega) ?_)
      refine i8 ι Q hR e19 e0 hP (fun _ ι1 a1 b1 c1 d1 x1 F1 => ?_) (fun e => absurd hr e)
      refine k7 ι1 Q a1 (by rw [F1 13 0 19 (by omega)]; exact e19) (by rw [F1 78 0 0 (by omega)]; exact e0) (by rw [F1 78 0 2 (by omega)]; exact e2) (by rw [F1 78 0 1 (by omega)]; exact e1) c1 d1 b1 (fun j x y => by rw [F1 83 0 j (by omega)]; exact hz0 j x y) (fun j x y => by rw [F1 84 0 j (by omega)]; exact hz j x y) (fun e ι2 a2 b2 y1 y2 y3 y4 y5 y6 y7 F2 => ?_) (fun e ι2 a2 b2 c2 F2 => hh e ι2 a2 b2 c2 ((F1.wide fun t i j q => by grind).trans (F2.wide fun t i j q => by grind)))
      exact h e ι2 a2 b2 (by rw [F2 13 0 22 (by omega)]; exact c1) (by rw [F2 13 0 23 (by omega)]; exact d1) (fun j x y => by rw [F2 82 0 j (by omega)]; exact x1 j x y) y1 y2 y3 y4 y5 y6 y7 ((F1.wide fun t i j q => by grind).trans (F2.wide fun t i j q => by grind))
    intro ι K H hR h3 h6 h4 e0 e2 e1 hP h
    refine i7 ι _ _ hR h3 h6 e0 hP (fun ι1 a1 b1 c1 F1 => ?_)
    rw [hr] at a1
    obtain ⟨c1, d1, x1⟩ := c1 hr
    refine k6 ι1 _ _ a1 (by rw [F1 8 0 3 (by omega)]; exact h3) (by rw [F1 8 0 6 (by omega)]; exact h6) (by rw [F1 8 0 4 (by omega)]; exact h4) (by rw [F1 43 cm 0 (by omega)]; exact e0) (by rw [F1 43 cm 2 (by omega)]; exact e2) (by rw [F1 43 cm 1 (by omega)]; exact e1) c1 d1 b1 (fun ι2 a2 b2 c2 d2 F2 => ?_)
    refine h ι2 a2 b2 (fun e => ⟨⟨by rw [F2 7 cm 8 (by omega)]; exact c1, by rw [F2 7 cm 9 (by omega)]; exact d1, fun j x y => by rw [F2 45 cm j (by omega)]; exact x1 j x y⟩, c2 e⟩) (fun e => ?_) ((F1.wide fun t i j q => Or.inr q).trans (F2.wide fun t i j q => Or.inl q))
    have := d2 e
    rw [F1 8 0 5 (by omega)] at this
    exact this
  · refine ⟨p1, r1, pf, dk, 0, 0, D, D, D, PA1, fun _ _ => 0, fun _ _ _ => 0, (16 + dk * bm_p2 pf + 48 * bm_p2 pf).toNat, i1, i2, by omega, hPA, i4, i5, i6, by have := p2_3 i4; omega, fun e => absurd e hr, ?_, ?_⟩
    rotate_left 1
    · intro ι Q hR e19 e0 e2 e1 hP hz0 hz h hh
      refine e_M_readHeads_6 (bif_t (by omega) ?_)
      exact i8 ι Q hR e19 e0 hP (fun e => absurd e hr) (fun e ι1 a1 b1 c1 F1 => hh e ι1 a1 b1 c1 (F1.wide fun t i j q => by grind))
    intro ι K H hR h3 h6 h4 e0 e2 e1 hP h
    refine i7 ι _ _ hR h3 h6 e0 hP (fun ι1 a1 b1 c1 F1 => ?_)
    exact s_h3_err (by rw [a1.2.2.1]; exact hr) (h ι1 a1 b1 (fun e => absurd e hr) (fun _ => ⟨by rw [F1 8 0 4 (by omega)]; exact h4, by rw [F1 8 0 6 (by omega)]; exact h6, F1 8 0 5 (by omega)⟩) (F1.wide fun t i j q => by grind))
def sel {α : Type} (f : Int → α) (k : Int) (v : α) : Int → α := fun j => if j = k then v else f j
theorem sel_s {α : Type} {f : Int → α} {k : Int} {v : α} : sel f k v k = v := if_pos rfl
theorem sel_n {α : Type} {f : Int → α} {k j : Int} {v : α} (h : j ≠ k) : sel f k v j = f j := if_neg h
def kn (sc : bm_Sc) : Nat → Int → bm_S → (bm_S → Prop) → (Nat × Int → bm_S → Prop) → Prop
  | 0, _, ι, K, _ => K ι
  | m + 1, q, ι, K, H => bC sc 81 [br 8 0, bi q] ι (bk0 (fun ι1 => kn sc m (q + 1) ι1 K H) H)
theorem s_kn_err {ι : bm_S} {K : bm_S → Prop} {H : Nat × Int → bm_S → Prop} (hr : ι 0 0 3 ≠ 0) (h : K ι) : ∀ (m : Nat) (q : Int), kn sc m q ι K H
  | 0, _ => h
  | m + 1, q => s_kinds_err hr (s_kn_err hr h m (q + 1))
abbrev fKq (q cm : Int) (t : Nat) (i j : Int) : Prop := fR t i j ∨ t = 52 ∨ t = 43 ∧ i = cm ∧ q ≤ j ∧ j < 3 ∨ t = 1 ∧ q ≤ i ∧ i < 3 ∨ t = 23 ∨ t = 24 ∨ t = 25 ∨ t = 4 ∧ (j = 5 ∨ j = 6 ∨ j = 7) ∨ (i = 73 ∨ 74 + 2 * q ≤ i ∧ i < 80) ∧ (t = 21 ∨ t = 22 ∨ t = 3 ∧ j = 2)
abbrev gKq (q : Int) (t : Nat) (i j : Int) : Prop := gR t i j ∨ t = 76 ∨ (t = 78 ∨ t = 79 ∨ t = 80 ∨ t = 81) ∧ q ≤ j ∧ j < 3 ∨ t = 75 ∨ (t = 71 ∨ t = 72 ∨ t = 73) ∧ (14 * q ≤ j ∧ j < 42 ∨ 42 + 26 * q ≤ j ∧ j < 120 ∨ 17910 ≤ j ∧ j < 17928)
theorem w_fKi {q cm : Int} (h0 : 0 ≤ q) (h1 : q < 3) (t : Nat) (i j : Int) (h : fKi q cm t i j) : fKq q cm t i j := by
  rcases h with h | h | h | h | h | h <;> omega
theorem w_fKq {q cm : Int} (h0 : 0 ≤ q) (t : Nat) (i j : Int) (h : fKq (q + 1) cm t i j) : fKq q cm t i j := by
  rcases h with h | h | h | h | h | h | h | h | h <;> omega
theorem w_gKi {q : Int} (h0 : 0 ≤ q) (h1 : q < 3) (t : Nat) (i j : Int) (h : gKi q t i j) : gKq q t i j := by
  rcases h with h | h | h | h | h <;> omega
theorem w_gKq {q : Int} (h0 : 0 ≤ q) (t : Nat) (i j : Int) (h : gKq (q + 1) t i j) : gKq q t i j := by
  rcases h with h | h | h | h | h <;> omega
theorem j_kinds (hw : wfβ β lim) {cm pc : Int} (hpc : 0 ≤ pc) : ∀ (m : Nat) (q : Int) (PA : Int → Int) (p : Int), q = 3 - m → 0 ≤ q → 0 ≤ p → p ≤ lim →
    ∃ (p' r : Int) (kd lf lk lc : Int → Int) (Lk Lc : Int → Int → Int) (PA' : Int → Int), p ≤ p' ∧ p' ≤ lim ∧ (r = 0 ∨ 0 < r ∧ r < 18) ∧ (r = 0 → ∀ x, q ≤ x → x < 3 → KW (kd x) 0 1 (lf x) ∧ KO (kd x) (lk x) (Lk x) (lc x) (Lc x)) ∧ (∀ w, 5 ≤ w → PA' (12 * (pc - 1) + w) = PA (12 * (pc - 1) + w)) ∧
    (∀ (ι : bm_S) (K : bm_S → Prop) (H : Nat × Int → bm_S → Prop), cR ι β lim p 0 → ι 8 0 3 = pc → ι 8 0 6 = cm → PaC ι PA → (∀ ι' : bm_S, cR ι' β lim p' r → PaC ι' PA' → (r = 0 → ∀ x, q ≤ x → x < 3 → ι' 43 cm x = kd x ∧ KC ι' x (kd x) 0 1 (lf x) ∧ KcC ι' x (kd x) (lk x) (Lk x) (lc x) (Lc x)) → Fr (fKq q cm) ι ι' → K ι') → kn sc m q ι K H) ∧
    (∀ (ι : bm_S) (Q : bm_O → bm_S → Prop), mR ι β lim p → ι 13 0 19 = pc → PaM ι PA → (r = 0 → ∀ ι' : bm_S, mR ι' β lim p' → PaM ι' PA' → (∀ x, q ≤ x → x < 3 → KM ι' x (kd x) 0 1 (lf x) ∧ KcM ι' x (kd x) (lk x) (Lk x) (lc x) (Lc x)) → Fr (gKq q) ι ι' → bW sc 198 6 [br 13 0, bi 3] [] ι' Q) → (r ≠ 0 → ∀ ι' : bm_S, mR ι' β lim p' → ι' 12 0 6 = r → PaM ι' PA' → Fr (gKq q) ι ι' → bq Q (12, 0) ι') → bW sc 198 6 [br 13 0, bi q] [] ι Q)
  | 0, q, PA, p, hq, hq0, hp0, hp1 => by
    refine ⟨p, 0, fun _ => 0, fun _ => 0, fun _ => 0, fun _ => 0, fun _ _ => 0, fun _ _ => 0, PA, by omega, hp1, by omega, fun _ x a b => by omega, fun _ _ => rfl, ?_, ?_⟩
    · intro ι K H hR _ _ hP h
      exact h ι hR hP (fun _ x a b => by omega) (Fr.refl _ _)
    · intro ι Q hR _ hP h _
      have := h rfl ι hR hP (fun x a b => by omega) (Fr.refl _ _)
      rw [show q = 3 by omega]; exact this
  | m + 1, q, PA, p, hq, hq0, hp0, hp1 => by
    obtain ⟨p1, r1, kd, lf, lk, lc, Lk, Lc, PA1, i1, i2, i3, i4, i5, i6, i7⟩ := j_readKinds (sc := sc) hw q (by omega) pc cm hpc PA p hp0 hp1
    have hPA : ∀ w, 5 ≤ w → PA1 (12 * (pc - 1) + w) = PA (12 * (pc - 1) + w) := fun w hw => by
      rcases i5 with e | ⟨v, e⟩
      · rw [e]
      · rw [e, nt_far (by omega)]
    by_cases hr : r1 = 0
    · obtain ⟨hW, hO, -⟩ := i4 hr
      obtain ⟨p2, r2, kd', lf', lk', lc', Lk', Lc', PA2, k1, k2, k3, k4, k5, k6, k7⟩ := j_kinds hw hpc m (q + 1) PA1 p1 (by omega) (by omega) (by omega) i2
      refine ⟨p2, r2, sel kd' q kd, sel lf' q lf, sel lk' q lk, sel lc' q lc, sel Lk' q Lk, sel Lc' q Lc, PA2, by omega, k2, k3, fun e x a b => ?_, fun w hw => (k5 w hw).trans (hPA w hw), ?_, ?_⟩
      · by_cases c : x = q
        · subst c
          rw [sel_s, sel_s, sel_s, sel_s, sel_s, sel_s]
          exact ⟨hW, hO⟩
        · rw [sel_n c, sel_n c, sel_n c, sel_n c, sel_n c, sel_n c]
          exact k4 e x (by omega) b
      · intro ι K H hR h3 h6 hP h
        refine i6 ι _ _ hR h3 h6 hP (fun ι1 a1 b1 c1 F1 => ?_)
        rw [hr] at a1
        obtain ⟨c1, d1, x1⟩ := c1 hr
        refine k6 ι1 _ _ a1 (by rw [F1 8 0 3 (by omega)]; exact h3) (by rw [F1 8 0 6 (by omega)]; exact h6) b1 (fun ι2 a2 b2 c2 F2 => ?_)
        refine h ι2 a2 b2 (fun e x a b => ?_) ((F1.wide (w_fKi (by omega) (by omega))).trans (F2.wide (w_fKq (by omega))))
        by_cases c : x = q
        · subst c
          rw [sel_s, sel_s, sel_s, sel_s, sel_s, sel_s]
          refine ⟨by rw [F2 43 cm x (by omega)]; exact c1, ⟨?_, ?_, ?_, ?_⟩, x1.fr F2 (fun c hc j => by omega)⟩
          · rw [F2 1 x 2 (by omega)]; exact d1.1
          · rw [F2 1 x 3 (by omega)]; exact d1.2.1
          · rw [F2 1 x 4 (by omega)]; exact d1.2.2.1
          · rw [F2 1 x 5 (by omega)]; exact d1.2.2.2
        · rw [sel_n c, sel_n c, sel_n c, sel_n c, sel_n c, sel_n c]
          exact c2 e x (by omega) b
      · intro ι Q hR e19 hP h hh
        refine e_M_readHeads_6 (bif_f (by omega) ?_)
        refine i7 ι _ _ hR e19 hP (fun _ ι1 a1 b1 c1 d1 F1 => ⟨by omega, ?_⟩) (fun e => absurd hr e)
        refine k7 ι1 Q a1 (by rw [F1 13 0 19 (by omega)]; exact e19) b1 (fun e ι2 a2 b2 c2 F2 => ?_) (fun e ι2 a2 b2 c2 F2 => hh e ι2 a2 b2 c2 ((F1.wide (w_gKi (by omega) (by omega))).trans (F2.wide (w_gKq (by omega)))))
        refine h e ι2 a2 b2 (fun x a b => ?_) ((F1.wide (w_gKi (by omega) (by omega))).trans (F2.wide (w_gKq (by omega))))
        by_cases c : x = q
        · subst c
          rw [sel_s, sel_s, sel_s, sel_s, sel_s, sel_s]
          refine ⟨⟨?_, ?_, ?_, ?_⟩, d1.fr F2 hW.1.2 (fun j hj => by omega)⟩
          · rw [F2 78 0 x (by omega)]; exact c1.1
          · rw [F2 79 0 x (by omega)]; exact c1.2.1
          · rw [F2 80 0 x (by omega)]; exact c1.2.2.1
          · rw [F2 81 0 x (by omega)]; exact c1.2.2.2
        · rw [sel_n c, sel_n c, sel_n c, sel_n c, sel_n c, sel_n c]
          exact c2 x (by omega) b
    · refine ⟨p1, r1, fun _ => 0, fun _ => 0, fun _ => 0, fun _ => 0, fun _ _ => 0, fun _ _ => 0, PA1, i1, i2, i3, fun e => absurd e hr, hPA, ?_, ?_⟩
      · intro ι K H hR h3 h6 hP h
        refine i6 ι _ _ hR h3 h6 hP (fun ι1 a1 b1 c1 F1 => ?_)
        exact s_kn_err (by rw [a1.2.2.1]; exact hr) (h ι1 a1 b1 (fun e => absurd e hr) (F1.wide (w_fKi (by omega) (by omega)))) m (q + 1)
      · intro ι Q hR e19 hP h hh
        refine e_M_readHeads_6 (bif_f (by omega) ?_)
        exact i7 ι _ _ hR e19 hP (fun e => absurd e hr) (fun e ι1 a1 b1 c1 F1 => hh e ι1 a1 b1 c1 (F1.wide (w_gKi (by omega) (by omega))))
end Heads3
