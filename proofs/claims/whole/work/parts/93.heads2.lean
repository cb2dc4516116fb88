/-! the heads of a part -/
section Heads2
variable {sc : bm_Sc} {β : Int → Int} {lim : Int}
/-- the codes of all sorts -/
def CdC (ι : bm_S) (cm n0 n1 n2 : Int) (LO : Int → Int → Int) (LL : Int → Int → Int → Int) (a : Nat) : Prop := CoC ι cm 0 n0 (LO 0) (LL 0) 256 ∧ CoC ι cm 1 n1 (LO 1) (LL 1) 704 ∧ CoC ι cm 2 n2 (LO 2) (LL 2) a
def CdM (ι : bm_S) (n0 n1 n2 : Int) (LO : Int → Int → Int) (LL : Int → Int → Int → Int) (a : Nat) : Prop := CoM ι 120 256 n0 (LO 0) (LL 0) 256 ∧ CoM ι 3192 704 n1 (LO 1) (LL 1) 704 ∧ CoM ι 11640 520 n2 (LO 2) (LL 2) a
def CdO (n0 n1 n2 : Int) (LO : Int → Int → Int) (LL : Int → Int → Int → Int) (a : Nat) : Prop := CoO n0 (LO 0) (LL 0) 256 ∧ CoO n1 (LO 1) (LL 1) 704 ∧ CoO n2 (LO 2) (LL 2) a
/-- the model keeps what is told -/
def KeM (ι : bm_S) : Prop := ι 13 0 33 = 1 ∧ ι 13 0 35 = ι 13 0 29 ∧ ι 13 0 36 = ι 13 0 30 ∧ (∀ j, 0 ≤ j → j < 3 → ι 85 0 j = ι 78 0 j) ∧ (∀ j, 0 ≤ j → j < 18000 → ι 86 0 j = ι 71 0 j) ∧ (∀ j, 0 ≤ j → j < 768 → ι 87 0 j = ι 83 0 j) ∧ (∀ j, 0 ≤ j → j < 48 → ι 88 0 j = ι 84 0 j)
abbrev f4 (cm : Int) (t : Nat) (i j : Int) : Prop := fCoS cm t i j ∨ fTr47 cm t i j
abbrev g4 (t : Nat) (i j : Int) : Prop := gCoA t i j ∨ gTr84 t i j
abbrev f3 (cm : Int) (t : Nat) (i j : Int) : Prop := f4 cm t i j ∨ fTr46 cm t i j
abbrev g3 (t : Nat) (i j : Int) : Prop := g4 t i j ∨ gTr83 t i j
abbrev f2 (cm : Int) (t : Nat) (i j : Int) : Prop := f3 cm t i j ∨ fFo cm t i j
abbrev g2 (t : Nat) (i j : Int) : Prop := g3 t i j ∨ gFo t i j
abbrev fKk (cm : Int) (t : Nat) (i j : Int) : Prop := fR t i j ∨ t = 52 ∨ t = 43 ∧ i = cm ∨ t = 1 ∨ t = 23 ∨ t = 24 ∨ t = 25 ∨ t = 4 ∧ (j = 5 ∨ j = 6 ∨ j = 7) ∨ (73 ≤ i ∧ i ≤ 79) ∧ (t = 21 ∨ t = 22 ∨ t = 3 ∧ j = 2)
abbrev gKk (t : Nat) (i j : Int) : Prop := gR t i j ∨ t = 76 ∨ t = 78 ∨ t = 79 ∨ t = 80 ∨ t = 81 ∨ t = 75 ∨ (t = 71 ∨ t = 72 ∨ t = 73) ∧ (0 ≤ j ∧ j < 120 ∨ 17910 ≤ j ∧ j < 17928)
/-- one of three -/
def t3 {α : Type} (a b c : α) (q : Int) : α := if q = 0 then a else if q = 1 then b else c
theorem t3_0 {α : Type} {a b c : α} : t3 a b c 0 = a := if_pos rfl
theorem t3_1 {α : Type} {a b c : α} : t3 a b c 1 = b := by unfold t3; rw [if_neg (by omega), if_pos rfl]
theorem t3_2 {α : Type} {a b c : α} : t3 a b c 2 = c := by unfold t3; rw [if_neg (by omega), if_neg (by omega)]
theorem s_h4_err {ι : bm_S} {K : bm_S → Prop} {H : Nat × Int → bm_S → Prop} (hr : ι 0 0 3 ≠ 0) (h : K ι) : bC sc 83 [br 8 0, bi 1] ι (bk0 (fun ι1 => bC sc 86 [br 8 0] ι1 (bk0 K H)) H) := s_trees47_err hr (s_codes_err hr h)
theorem s_h3_err {ι : bm_S} {K : bm_S → Prop} {H : Nat × Int → bm_S → Prop} (hr : ι 0 0 3 ≠ 0) (h : K ι) : bC sc 83 [br 8 0, bi 0] ι (bk0 (fun ι0 => bC sc 83 [br 8 0, bi 1] ι0 (bk0 (fun ι1 => bC sc 86 [br 8 0] ι1 (bk0 K H)) H)) H) := s_trees46_err hr (s_h4_err hr h)
theorem nt_far {f : Int → Int} {pc w v w' : Int} (h : w' ≠ w) : nt f pc w v (12 * (pc - 1) + w') = f (12 * (pc - 1) + w') := by
  unfold nt
  by_cases c : 1 ≤ pc ∧ pc ≤ 60
  · rw [if_pos c, fs_n (by omega)]
  · rw [if_neg c]
/-- the second map and the codes -/
theorem j_h4 (hw : wfβ β lim) {kd2 n0 n1 cm tl pf dr pc : Int} (hkd : 1 ≤ kd2 ∧ kd2 ≤ 12) (hcm : cm = 0 ∨ cm = 1) (htl : tl = 0 ∨ tl = 1) (hn0 : 1 ≤ n0 ∧ n0 ≤ 12) (hn1 : 1 ≤ n1 ∧ n1 ≤ 12) (hpf : 0 ≤ pf ∧ pf < 4) (hdr : 0 ≤ dr ∧ dr ≤ 120) (hpc : 0 ≤ pc) (PA : Int → Int) (p : Int) (hp0 : 0 ≤ p) (hp1 : p ≤ lim) :
    ∃ (p' r tr : Int) (M PA' : Int → Int) (LO : Int → Int → Int) (LL : Int → Int → Int → Int) (a : Nat), p ≤ p' ∧ p' ≤ lim ∧ (r = 0 ∨ 0 < r ∧ r < 18) ∧ (∀ w, 9 ≤ w → PA' (12 * (pc - 1) + w) = PA (12 * (pc - 1) + w)) ∧ (a : Int) = 16 + dr + 48 * bm_p2 pf ∧ (r = 0 → (1 ≤ tr ∧ tr ≤ 12) ∧ (∀ j, 0 ≤ j → j < 48 → 0 ≤ M j ∧ M j < tr) ∧ CdO n0 n1 tr LO LL a) ∧
    (∀ (ι : bm_S) (K : bm_S → Prop) (H : Nat × Int → bm_S → Prop), cR ι β lim p 0 → ι 8 0 3 = pc → ι 8 0 6 = cm → ι 8 0 4 = tl → ι 43 cm 2 = kd2 → ι 44 cm 0 = n0 → ι 43 cm 1 = n1 → ι 7 cm 8 = pf → ι 7 cm 9 = dr → PaC ι PA → (∀ ι' : bm_S, cR ι' β lim p' r → PaC ι' PA' → (r = 0 → ι' 44 cm 1 = tr ∧ (∀ j, 0 ≤ j → j < 48 → ι' 47 cm j = M j) ∧ CdC ι' cm n0 n1 tr LO LL a ∧ ι' 8 0 4 = cm ∧ ι' 8 0 6 = tl ∧ ι' 8 0 5 = 1) → (r ≠ 0 → ι' 8 0 4 = tl ∧ ι' 8 0 6 = cm ∧ ι' 8 0 5 = ι 8 0 5) → Fr (f4 cm) ι ι' → K ι') → bC sc 83 [br 8 0, bi 1] ι (bk0 (fun ι1 => bC sc 86 [br 8 0] ι1 (bk0 K H)) H)) ∧
    (∀ (ι : bm_S) (Q : bm_O → bm_S → Prop), mR ι β lim p → ι 13 0 19 = pc → ι 78 0 2 = kd2 → ι 13 0 29 = n0 → ι 78 0 1 = n1 → ι 13 0 22 = pf → ι 13 0 23 = dr → PaM ι PA → (∀ j, 0 ≤ j → j < 48 → ι 84 0 j = 0) → (r = 0 → ∀ ι' : bm_S, mR ι' β lim p' → PaM ι' PA' → ι' 13 0 30 = tr → (∀ j, 0 ≤ j → j < 48 → ι' 84 0 j = M j) → CdM ι' n0 n1 tr LO LL a → KeM ι' → ι' 13 0 37 = a → Fr (fun t i j => g4 t i j ∨ gKe t i j) ι ι' → Q (.inl none) ι') → (r ≠ 0 → ∀ ι' : bm_S, mR ι' β lim p' → ι' 12 0 6 = r → PaM ι' PA' → Fr g4 ι ι' → bq Q (12, 0) ι') →
      bC sc 190 [br 13 0] ι (bk1 (fun r1 ι1 => bC sc 185 [br 13 0, bi 6, bi r1] (up ι1 13 0 30 r1) (bk0 (fun ι2 => if ι2 13 0 30 ≤ (1 : Int) then bW sc 198 188 [br 13 0, bi 0] [] ι2 Q else (0 ≤ (2 : Int) ∧ (2 : Int) < (3 : Int)) ∧ (bm_rg (4 * ι2 78 0 2)) ∧ bC sc 196 [br 13 0, br 84 0, bi (4 * ι2 78 0 2), bi (ι2 13 0 30)] ι2 (bk0 (fun ι6 => bW sc 198 188 [br 13 0, bi 0] [] ι6 Q) (bq Q))) (bq Q))) (bq Q))) := by
  obtain ⟨p1, r1, tr, M, PA1, i1, i2, i3, i4, iP, i5, i6⟩ := j_trees47 (sc := sc) hw hkd pc cm hpc PA p hp0 hp1
  have hPA : ∀ w, 9 ≤ w → PA1 (12 * (pc - 1) + w) = PA (12 * (pc - 1) + w) := fun w hw => by
    rcases iP with e | ⟨v, e⟩
    · rw [e]
    · rw [e, nt_far (by omega)]
  have hp2 := p2_3 hpf
  by_cases hr : r1 = 0
  · obtain ⟨htr, hM, -⟩ := i4 hr
    obtain ⟨p2, r2, LO0, LO1, LO2, LL0, LL1, LL2, a, k1, k2, k3, k4, k5, k6, k7⟩ := j_codesAll (sc := sc) hw hcm htl hn0 hn1 htr hpf hdr p1 (by omega) i2
    refine ⟨p2, r2, tr, M, PA1, t3 LO0 LO1 LO2, t3 LL0 LL1 LL2, a, by omega, k2, k3, hPA, k4, fun e => ⟨htr, hM, ?_⟩, ?_, ?_⟩
    · unfold CdO; rw [t3_0, t3_0, t3_1, t3_1, t3_2, t3_2]; exact k5 e
    rotate_left 1
    · intro ι Q hR e19 e2 e0 e1 e22 e23 hP hz h hh
      refine i6 ι _ _ hR e19 e2 hP hz (fun _ ι1 a1 b1 c1 d1 F1 => ?_) (fun e => absurd hr e)
      refine k7 ι1 Q a1 (by rw [F1 13 0 29 (by omega)]; exact e0) (by rw [F1 78 0 1 (by omega)]; exact e1) c1 (by rw [F1 13 0 22 (by omega)]; exact e22) (by rw [F1 13 0 23 (by omega)]; exact e23) (fun e ι2 a2 b2 c2 d2 F2 => ?_) (fun e ι2 a2 b2 F2 => hh e ι2 a2 b2 (b1.fr F2 (fun j => by omega)) ((F1.wide fun t i j q => by grind).trans (F2.wide fun t i j q => by grind)))
      refine m_keep (pf := pf) (dr := dr) hpf hdr (by rw [F2 13 0 22 (by omega), F1 13 0 22 (by omega)]; exact e22) (by rw [F2 13 0 23 (by omega), F1 13 0 23 (by omega)]; exact e23) (fun ι3 x33 x35 x36 x37 x85 x86 x87 x88 F3 => ?_)
      refine h e ι3 (a2.fr F3 (fun j => by omega) (by rw [F3 13 0 16 (by omega)]; exact a2.1)) ((b1.fr F2 (fun j => by omega)).fr F3 (fun j => by omega)) (by rw [F3 13 0 30 (by omega), F2 13 0 30 (by omega)]; exact c1) (fun j x y => by rw [F3 84 0 j (by omega), F2 84 0 j (by omega)]; exact d1 j x y) ?_ ⟨x33, by rw [x35, F3 13 0 29 (by omega)], by rw [x36, F3 13 0 30 (by omega)], fun j x y => by rw [x85 j x y, F3 78 0 j (by omega)], fun j x y => by rw [x86 j x y, F3 71 0 j (by omega)], fun j x y => by rw [x87 j x y, F3 83 0 j (by omega)], fun j x y => by rw [x88 j x y, F3 84 0 j (by omega)]⟩ (by omega) (((F1.wide fun t i j q => by grind).trans (F2.wide fun t i j q => by grind)).trans (F3.wide fun t i j q => by grind))
      unfold CdM; rw [t3_0, t3_0, t3_1, t3_1, t3_2, t3_2]
      exact ⟨b2.fr F3 (by omega) (fun t s x y z => by omega), c2.fr F3 (by omega) (fun t s x y z => by omega), d2.fr F3 (by omega) (fun t s x y z => by omega)⟩
    intro ι K H hR h3 h6 h4 e2 e0 e1 h8 h9 hP h
    refine i5 ι _ _ hR h3 h6 e2 hP (fun ι1 a1 b1 c1 F1 => ?_)
    rw [hr] at a1
    obtain ⟨c1, d1⟩ := c1 hr
    refine k6 ι1 _ _ a1 (by rw [F1 8 0 6 (by omega)]; exact h6) (by rw [F1 8 0 4 (by omega)]; exact h4) (by rw [F1 44 cm 0 (by omega)]; exact e0) (by rw [F1 43 cm 1 (by omega)]; exact e1) c1 (by rw [F1 7 cm 8 (by omega)]; exact h8) (by rw [F1 7 cm 9 (by omega)]; exact h9) (fun ι2 a2 b2 c2 F2 => ?_)
    refine h ι2 a2 (b1.fr F2 (fun j => by omega)) (fun e => ?_) (fun e => ?_) ((F1.wide fun t i j q => by grind).trans (F2.wide fun t i j q => by grind))
    · obtain ⟨x1, x2, x3, x4, x5, x6⟩ := b2 e
      refine ⟨by rw [F2 44 cm 1 (by omega)]; exact c1, fun j x y => by rw [F2 47 cm j (by omega)]; exact d1 j x y, ?_, x4, x5, x6⟩
      unfold CdC; rw [t3_0, t3_0, t3_1, t3_1, t3_2, t3_2]
      exact ⟨x1, x2, x3⟩
    · have := c2 e
      rw [F1 8 0 5 (by omega)] at this
      exact this
  · refine ⟨p1, r1, tr, M, PA1, fun _ _ => 0, fun _ _ _ => 0, (16 + dr + 48 * bm_p2 pf).toNat, i1, i2, i3, hPA, by omega, fun e => absurd e hr, ?_, ?_⟩
    rotate_left 1
    · intro ι Q hR e19 e2 e0 e1 e22 e23 hP hz h hh
      exact i6 ι _ _ hR e19 e2 hP hz (fun e => absurd e hr) (fun e ι1 a1 b1 c1 F1 => hh e ι1 a1 b1 c1 (F1.wide fun t i j q => by grind))
    intro ι K H hR h3 h6 h4 e2 e0 e1 h8 h9 hP h
    refine i5 ι _ _ hR h3 h6 e2 hP (fun ι1 a1 b1 c1 F1 => ?_)
    exact s_codes_err (by rw [a1.2.2.1]; exact hr) (h ι1 a1 b1 (fun e => absurd e hr) (fun _ => ⟨by rw [F1 8 0 4 (by omega)]; exact h4, by rw [F1 8 0 6 (by omega)]; exact h6, F1 8 0 5 (by omega)⟩) (F1.wide fun t i j q => by grind))
/-- both maps and the codes -/
theorem j_h3 (hw : wfβ β lim) {kd0 kd2 n1 cm tl pf dr pc : Int} (hkd0 : 1 ≤ kd0 ∧ kd0 ≤ 12) (hkd : 1 ≤ kd2 ∧ kd2 ≤ 12) (hcm : cm = 0 ∨ cm = 1) (htl : tl = 0 ∨ tl = 1) (hn1 : 1 ≤ n1 ∧ n1 ≤ 12) (hpf : 0 ≤ pf ∧ pf < 4) (hdr : 0 ≤ dr ∧ dr ≤ 120) (hpc : 0 ≤ pc) (PA : Int → Int) (p : Int) (hp0 : 0 ≤ p) (hp1 : p ≤ lim) :
    ∃ (p' r n0 tr : Int) (M0 M PA' : Int → Int) (LO : Int → Int → Int) (LL : Int → Int → Int → Int) (a : Nat), p ≤ p' ∧ p' ≤ lim ∧ (r = 0 ∨ 0 < r ∧ r < 18) ∧ (∀ w, 9 ≤ w → PA' (12 * (pc - 1) + w) = PA (12 * (pc - 1) + w)) ∧ (a : Int) = 16 + dr + 48 * bm_p2 pf ∧ (r = 0 → (1 ≤ n0 ∧ n0 ≤ 12) ∧ (∀ j, 0 ≤ j → j < 768 → 0 ≤ M0 j ∧ M0 j < n0) ∧ (1 ≤ tr ∧ tr ≤ 12) ∧ (∀ j, 0 ≤ j → j < 48 → 0 ≤ M j ∧ M j < tr) ∧ CdO n0 n1 tr LO LL a) ∧
    (∀ (ι : bm_S) (K : bm_S → Prop) (H : Nat × Int → bm_S → Prop), cR ι β lim p 0 → ι 8 0 3 = pc → ι 8 0 6 = cm → ι 8 0 4 = tl → ι 43 cm 0 = kd0 → ι 43 cm 2 = kd2 → ι 43 cm 1 = n1 → ι 7 cm 8 = pf → ι 7 cm 9 = dr → PaC ι PA → (∀ ι' : bm_S, cR ι' β lim p' r → PaC ι' PA' → (r = 0 → ι' 44 cm 0 = n0 ∧ (∀ j, 0 ≤ j → j < 768 → ι' 46 cm j = M0 j) ∧ ι' 44 cm 1 = tr ∧ (∀ j, 0 ≤ j → j < 48 → ι' 47 cm j = M j) ∧ CdC ι' cm n0 n1 tr LO LL a ∧ ι' 8 0 4 = cm ∧ ι' 8 0 6 = tl ∧ ι' 8 0 5 = 1) → (r ≠ 0 → ι' 8 0 4 = tl ∧ ι' 8 0 6 = cm ∧ ι' 8 0 5 = ι 8 0 5) → Fr (f3 cm) ι ι' → K ι') → bC sc 83 [br 8 0, bi 0] ι (bk0 (fun ι0 => bC sc 83 [br 8 0, bi 1] ι0 (bk0 (fun ι1 => bC sc 86 [br 8 0] ι1 (bk0 K H)) H)) H)) ∧
    (∀ (ι : bm_S) (Q : bm_O → bm_S → Prop), mR ι β lim p → ι 13 0 19 = pc → ι 78 0 0 = kd0 → ι 78 0 2 = kd2 → ι 78 0 1 = n1 → ι 13 0 22 = pf → ι 13 0 23 = dr → PaM ι PA → (∀ j, 0 ≤ j → j < 768 → ι 83 0 j = 0) → (∀ j, 0 ≤ j → j < 48 → ι 84 0 j = 0) → (r = 0 → ∀ ι' : bm_S, mR ι' β lim p' → PaM ι' PA' → ι' 13 0 29 = n0 → (∀ j, 0 ≤ j → j < 768 → ι' 83 0 j = M0 j) → ι' 13 0 30 = tr → (∀ j, 0 ≤ j → j < 48 → ι' 84 0 j = M j) → CdM ι' n0 n1 tr LO LL a → KeM ι' → ι' 13 0 37 = a → Fr (fun t i j => g3 t i j ∨ gKe t i j) ι ι' → Q (.inl none) ι') → (r ≠ 0 → ∀ ι' : bm_S, mR ι' β lim p' → ι' 12 0 6 = r → PaM ι' PA' → Fr g3 ι ι' → bq Q (12, 0) ι') →
      bW sc 198 67 [br 13 0, bi kd0] [] ι Q) := by
  obtain ⟨p1, r1, n0, M0, PA1, i1, i2, i3, i4, iP, i5, i6⟩ := j_trees46 (sc := sc) hw hkd0 pc cm hpc PA p hp0 hp1
  have hPA : ∀ w, 9 ≤ w → PA1 (12 * (pc - 1) + w) = PA (12 * (pc - 1) + w) := fun w hw => by
    rcases iP with e | ⟨v, e⟩
    · rw [e]
    · rw [e, nt_far (by omega)]
  by_cases hr : r1 = 0
  · obtain ⟨hn0, hM0, -⟩ := i4 hr
    obtain ⟨p2, r2, tr, M, PA2, LO, LL, a, k1, k2, k3, kP, k4, k5, k6, k7⟩ := j_h4 (sc := sc) hw hkd hcm htl hn0 hn1 hpf hdr hpc PA1 p1 (by omega) i2
    refine ⟨p2, r2, n0, tr, M0, M, PA2, LO, LL, a, by omega, k2, k3, fun w hw => (kP w hw).trans (hPA w hw), k4, fun e => ⟨hn0, hM0, k5 e⟩, ?_, ?_⟩
    rotate_left 1
    · intro ι Q hR e19 e0 e2 e1 e22 e23 hP hz0 hz h hh
      refine e_M_readHeads_67 ⟨by omega, bif_t (by omega) ?_⟩
      have G : ∀ ι1 : bm_S, mR ι1 β lim p1 → PaM ι1 PA1 → ι1 13 0 29 = n0 → (∀ j, 0 ≤ j → j < 768 → ι1 83 0 j = M0 j) → Fr gTr83 ι ι1 → bC sc 190 [br 13 0] ι1 (bk1 (fun r1 ι1 => bC sc 185 [br 13 0, bi 6, bi r1] (up ι1 13 0 30 r1) (bk0 (fun ι2 => if ι2 13 0 30 ≤ (1 : Int) then bW sc 198 188 [br 13 0, bi 0] [] ι2 Q else (0 ≤ (2 : Int) ∧ (2 : Int) < (3 : Int)) ∧ (bm_rg (4 * ι2 78 0 2)) ∧ bC sc 196 [br 13 0, br 84 0, bi (4 * ι2 78 0 2), bi (ι2 13 0 30)] ι2 (bk0 (fun ι6 => bW sc 198 188 [br 13 0, bi 0] [] ι6 Q) (bq Q))) (bq Q))) (bq Q)) := by
        intro ι1 a1 b1 c1 d1 F1
        refine k7 ι1 Q a1 (by rw [F1 13 0 19 (by omega)]; exact e19) (by rw [F1 78 0 2 (by omega)]; exact e2) c1 (by rw [F1 78 0 1 (by omega)]; exact e1) (by rw [F1 13 0 22 (by omega)]; exact e22) (by rw [F1 13 0 23 (by omega)]; exact e23) b1 (fun j x y => by rw [F1 84 0 j (by omega)]; exact hz j x y) (fun e ι2 a2 b2 x1 x2 x3 x4 x5 F2 => ?_) (fun e ι2 a2 b2 c2 F2 => hh e ι2 a2 b2 c2 ((F1.wide fun t i j q => by grind).trans (F2.wide fun t i j q => by grind)))
        exact h e ι2 a2 b2 (by rw [F2 13 0 29 (by omega)]; exact c1) (fun j x y => by rw [F2 83 0 j (by omega)]; exact d1 j x y) x1 x2 x3 x4 x5 ((F1.wide fun t i j q => by grind).trans (F2.wide fun t i j q => by grind))
      exact i6 ι _ _ hR e19 e0 hP hz0 (fun _ ι1 a1 b1 c1 d1 F1 => G ι1 a1 b1 c1 d1 F1) (fun e => absurd hr e)
    intro ι K H hR h3 h6 h4 e0 e2 e1 h8 h9 hP h
    refine i5 ι _ _ hR h3 h6 e0 hP (fun ι1 a1 b1 c1 F1 => ?_)
    rw [hr] at a1
    obtain ⟨c1, d1⟩ := c1 hr
    refine k6 ι1 _ _ a1 (by rw [F1 8 0 3 (by omega)]; exact h3) (by rw [F1 8 0 6 (by omega)]; exact h6) (by rw [F1 8 0 4 (by omega)]; exact h4) (by rw [F1 43 cm 2 (by omega)]; exact e2) c1 (by rw [F1 43 cm 1 (by omega)]; exact e1) (by rw [F1 7 cm 8 (by omega)]; exact h8) (by rw [F1 7 cm 9 (by omega)]; exact h9) b1 (fun ι2 a2 b2 c2 d2 F2 => ?_)
    refine h ι2 a2 b2 (fun e => ⟨by rw [F2 44 cm 0 (by omega)]; exact c1, fun j x y => by rw [F2 46 cm j (by omega)]; exact d1 j x y, c2 e⟩) (fun e => ?_) ((F1.wide fun t i j q => by grind).trans (F2.wide fun t i j q => by grind))
    have := d2 e
    rw [F1 8 0 5 (by omega)] at this
    exact this
  · refine ⟨p1, r1, n0, 0, M0, M0, PA1, fun _ _ => 0, fun _ _ _ => 0, (16 + dr + 48 * bm_p2 pf).toNat, i1, i2, i3, hPA, by have := p2_3 hpf; omega, fun e => absurd e hr, ?_, ?_⟩
    rotate_left 1
    · intro ι Q hR e19 e0 e2 e1 e22 e23 hP hz0 hz h hh
      refine e_M_readHeads_67 ⟨by omega, bif_t (by omega) ?_⟩
      exact i6 ι (fun ι6 => bC sc 190 [br 13 0] ι6 (bk1 (fun r1 ι1 => bC sc 185 [br 13 0, bi 6, bi r1] (up ι1 13 0 30 r1) (bk0 (fun ι2 => if ι2 13 0 30 ≤ (1 : Int) then bW sc 198 188 [br 13 0, bi 0] [] ι2 Q else (0 ≤ (2 : Int) ∧ (2 : Int) < (3 : Int)) ∧ (bm_rg (4 * ι2 78 0 2)) ∧ bC sc 196 [br 13 0, br 84 0, bi (4 * ι2 78 0 2), bi (ι2 13 0 30)] ι2 (bk0 (fun ι6 => bW sc 198 188 [br 13 0, bi 0] [] ι6 Q) (bq Q))) (bq Q))) (bq Q))) _ hR e19 e0 hP hz0 (fun e => absurd e hr) (fun e ι1 a1 b1 c1 F1 => hh e ι1 a1 b1 c1 (F1.wide fun t i j q => by grind))
    intro ι K H hR h3 h6 h4 e0 e2 e1 h8 h9 hP h
    refine i5 ι _ _ hR h3 h6 e0 hP (fun ι1 a1 b1 c1 F1 => ?_)
    exact s_h4_err (by rw [a1.2.2.1]; exact hr) (h ι1 a1 b1 (fun e => absurd e hr) (fun _ => ⟨by rw [F1 8 0 4 (by omega)]; exact h4, by rw [F1 8 0 6 (by omega)]; exact h6, F1 8 0 5 (by omega)⟩) (F1.wide fun t i j q => by grind))
end Heads2
