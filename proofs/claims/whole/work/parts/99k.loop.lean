/-! the end; parts one after the other; the span -/
section Loop
variable {sc : bm_Sc} {β : Int → Int} {lim : Int}
theorem s_finish_err {ι : bm_S} {K : Int → bm_S → Prop} {H : Nat × Int → bm_S → Prop} {p r : Int} (hp : 0 ≤ p ∧ p ≤ 19200) (hr : 0 < r ∧ r < 18) (hR : cR ι β lim p r) (hs : 0 ≤ ι 2 1 1 ∧ ι 2 1 1 ≤ 4096) (h : ∀ ι' : bm_S, ι' 0 0 1 = p → ι' 2 1 1 = 0 → Fr (fun t i _ => (t = 2 ∨ t = 20) ∧ i = 1) ι ι' → K (-10 - r) ι') : bC sc 71 [br 8 0] ι (bk1 K H) := by
  have hne : ι 0 0 3 ≠ 0 := by rw [hR.2.2.1]; omega
  have go : bC sc 16 [br 2 1, bi 0] ι (bk0 (fun ι3 => (bm_rg ((-10) - ι3 0 0 3)) ∧ K ((-10) - ι3 0 0 3) ι3) H) := by
    refine s_cut (s := ι 2 1 1) (b := ι 2 1 2) (f := ι 20 1) (Or.inr rfl) ⟨rfl, rfl, fun _ _ _ => rfl⟩ (by rw [L20_1]; exact hs) (fun ι1 hB hF => ?_)
    have F1 := hF.fr
    have e3 : ι1 0 0 3 = r := by rw [F1 0 0 3 (by omega)]; exact hR.2.2.1
    rw [e3]
    exact ⟨by omega, h ι1 (by rw [F1 0 0 1 (by omega)]; exact hR.1) (by rw [hB.1]; omega) F1⟩
  exact e_O_finish_0 (s_toByte_err (by rw [hR.1]; omega) hne (bif_i (fun _ => s_fine (fun e => absurd e hne) (fun _ => bif_t rfl go)) (fun _ => s_broken (fun e => absurd e hne) (fun _ => s_fine (fun e => absurd e hne) (fun _ => bif_t rfl go)))))
theorem j_finish (hw : wfβ β lim) {s : Int} (hs : 0 ≤ s ∧ s ≤ 4096) (p : Int) (hp0 : 0 ≤ p) (hp1 : p ≤ lim) :
    ∃ (p' r : Int), p ≤ p' ∧ p' ≤ lim ∧ (r = 0 ∨ 0 < r ∧ r < 18) ∧
    (∀ (ι : bm_S) (K : Int → bm_S → Prop) (H : Nat × Int → bm_S → Prop), cR ι β lim p 0 → ι 2 1 1 = s → (r = 0 → ∀ ι' : bm_S, cR ι' β lim p' 0 → Fr fR ι ι' → K s ι') → (r ≠ 0 → ∀ ι' : bm_S, ι' 0 0 1 = p' → ι' 2 1 1 = 0 → Fr fRw ι ι' → K (-10 - r) ι') → bC sc 71 [br 8 0] ι (bk1 K H)) ∧
    (∀ (ι : bm_S) (Q : bm_O → bm_S → Prop) (v2 : bm_V), mR ι β lim p → (r = 0 → ∀ ι' : bm_S, mR ι' β lim p' → Fr gR ι ι' → Q (.inl none) ι') → (r ≠ 0 → ∀ ι' : bm_S, mR ι' β lim p' → ι' 12 0 6 = r → Fr gR ι ι' → bq Q (12, 0) ι') → bW sc 222 24 [br 13 0, bi 1, v2] [] ι Q) := by
  have hl := hw.2.2
  obtain ⟨p1, r1, i1, i2, i3, i4, i5, i6⟩ := j_toByte (sc := sc) hw p hp0 hp1
  -- comp, broken at the end
  have cut : ∀ (ι ι1 : bm_S) (r : Int) (K : Int → bm_S → Prop) (H : Nat × Int → bm_S → Prop), 0 < r ∧ r < 18 → cR ι1 β lim p1 r → ι1 2 1 1 = s → Fr fR ι ι1 → (∀ ι' : bm_S, ι' 0 0 1 = p1 → ι' 2 1 1 = 0 → Fr fRw ι ι' → K (-10 - r) ι') → bC sc 2 [br 0 0] ι1 (bk1 (fun r5 ι5 => (if r5 = (0 : Int) then bC sc 16 [br 2 1, bi 0] ι5 (bk0 (fun ι3 => (bm_rg ((-10) - ι3 0 0 3)) ∧ K ((-10) - ι3 0 0 3) ι3) H) else K (ι5 2 1 1) ι5)) H) := by
    intro ι ι1 r K H hr x1 hs1 F1 h
    refine s_fine (fun e => absurd (x1.2.2.1.symm.trans e) (by omega)) (fun _ => bif_t rfl ?_)
    refine s_cut (s := s) (b := ι1 2 1 2) (f := ι1 20 1) (Or.inr rfl) ⟨hs1, rfl, fun _ _ _ => rfl⟩ (by rw [L20_1]; exact hs) (fun ι2 hB hF => ?_)
    have F2 := hF.fr
    have e3 : ι2 0 0 3 = r := by rw [F2 0 0 3 (by omega)]; exact x1.2.2.1
    rw [e3]
    exact ⟨by omega, h ι2 (by rw [F2 0 0 1 (by omega)]; exact x1.1) (by rw [hB.1]; omega) ((F1.wide fun t i j q => Or.inl q).trans (F2.wide fun t i j q => Or.inr q))⟩
  by_cases hr : r1 = 0
  · subst hr
    by_cases c : lim ≤ p1
    · refine ⟨p1, 0, i1, i2, Or.inl rfl, ?_, ?_⟩
      · intro ι K H hR hs1 h hh
        refine e_O_finish_0 (i5 ι _ _ hR (fun ι1 x1 F1 => bif_t (by rw [x1.1, x1.2.1]; exact c) (s_fine (fun _ => bif_f (by omega) ?_) (fun e => absurd x1.2.2.1 e))))
        have e : ι1 2 1 1 = s := by rw [F1 2 1 1 (by omega)]; exact hs1
        rw [e]
        exact h rfl ι1 x1 F1
      · intro ι Q v2 hR h hh
        refine e_M_readAll_24 (bif_f (by omega) (i6 ι _ _ hR (fun _ ι1 x1 F1 => ?_) (fun e => absurd rfl e)))
        rw [x1.2.1, x1.1]
        exact ⟨by omega, bif_t c (h rfl ι1 x1 F1)⟩
    · refine ⟨p1, 16, i1, i2, by omega, ?_, ?_⟩
      · intro ι K H hR hs1 h hh
        refine e_O_finish_0 (i5 ι _ _ hR (fun ι1 x1 F1 => bif_f (by rw [x1.1, x1.2.1]; exact c) (s_broken (fun _ => ?_) (fun e => absurd x1.2.2.1 e))))
        have F2 : Fr fR ι1 (up ι1 0 0 3 16) := (Fr.refl _ _).u (by omega)
        exact cut ι (up ι1 0 0 3 16) 16 K H (by omega) (x1.fr F2 (fun j => by omega) (by simp (disch := omega) only [up_s, up_k, up_j, up_i]; exact x1.1) (by simp (disch := omega) only [up_s, up_k, up_j, up_i])) (by simp (disch := omega) only [up_s, up_k, up_j, up_i]; rw [F1 2 1 1 (by omega)]; exact hs1) (F1.trans F2) (fun ι2 a1 a2 F3 => hh (by omega) ι2 a1 a2 F3)
      · intro ι Q v2 hR h hh
        refine e_M_readAll_24 (bif_f (by omega) (i6 ι _ _ hR (fun _ ι1 x1 F1 => ?_) (fun e => absurd rfl e)))
        rw [x1.2.1, x1.1]
        have F2 : Fr gR ι1 (up ι1 12 0 6 16) := (Fr.refl _ _).u (by omega)
        exact ⟨by omega, bif_f c (m_fail (hh (by omega) _ (x1.fr F2 (fun j => by omega) (by simp (disch := omega) only [up_s, up_k, up_j, up_i]; exact x1.1)) (by simp (disch := omega) only [up_s, up_k, up_j, up_i]) (F1.trans F2)))⟩
  · refine ⟨p1, r1, i1, i2, by omega, ?_, ?_⟩
    · intro ι K H hR hs1 h hh
      refine e_O_finish_0 (i5 ι _ _ hR (fun ι1 x1 F1 => ?_))
      have hne : ι1 0 0 3 ≠ 0 := by rw [x1.2.2.1]; exact hr
      have go := cut ι ι1 r1 K H (by omega) x1 (by rw [F1 2 1 1 (by omega)]; exact hs1) F1 (hh hr)
      exact bif_i (fun _ => go) (fun _ => s_broken (fun e => absurd e hne) (fun _ => go))
    · intro ι Q v2 hR h hh
      exact e_M_readAll_24 (bif_f (by omega) (i6 ι _ _ hR (fun e => absurd e hr) (fun e ι1 x1 y1 F1 => hh e ι1 x1 y1 F1)))
/-- comp at the end -/
def FC (ι ι' : bm_S) (p r s : Int) (f rg PA : Int → Int) (pc tl cm has : Int) (W : bm_S) : Prop := ι' 0 0 1 = p ∧ ι' 2 1 1 = (if r = 0 then s else 0) ∧ (r = 0 → ∀ k, 0 ≤ k → k < s → ι' 20 1 k = f k) ∧ (∀ i, 0 ≤ i → i < 4 → ι' 51 0 i = rg i) ∧ PaC ι' PA ∧ ι' 8 0 3 = pc ∧ TD ι' tl cm has W ∧ Fr fOp ι ι'
theorem FC.pre {ι ι1 ι' : bm_S} {p r s pc tl cm has : Int} {f rg PA : Int → Int} {W : bm_S} (h : FC ι1 ι' p r s f rg PA pc tl cm has W) (hF : Fr fOp ι ι1) : FC ι ι' p r s f rg PA pc tl cm has W := ⟨h.1, h.2.1, h.2.2.1, h.2.2.2.1, h.2.2.2.2.1, h.2.2.2.2.2.1, h.2.2.2.2.2.2.1, hF.trans h.2.2.2.2.2.2.2⟩
theorem j_loop (hw : wfβ β lim) {wn : Int} {g c : Int → Int} : ∀ (m : Nat) (s : Int) (f rg PA : Int → Int) (pc tl cm has : Int) (W : bm_S) (p x1 : Int), (lim - p).toNat < m → 0 ≤ s ∧ s ≤ 3000 → CO pc wn g c → TV tl cm has W → (∀ k, 0 ≤ k → k < s → -128 ≤ f k ∧ f k < 128) → (∀ i, 0 ≤ i → i < 4 → 1 ≤ rg i ∧ rg i ≤ 4096) → 0 ≤ x1 → x1 + 16 ≤ p → pc ≤ x1 → p ≤ lim →
    ∃ (p' r s' : Int) (f' rg' PA' : Int → Int) (pc' tl' cm' has' : Int) (W' : bm_S), (p ≤ p' ∧ p' ≤ lim) ∧ (r = 0 ∨ 0 < r ∧ r < 18) ∧ (r = 0 → 0 ≤ s' ∧ s' ≤ 3000 ∧ ∀ k, 0 ≤ k → k < s' → -128 ≤ f' k ∧ f' k < 128) ∧ 0 ≤ pc' ∧ TV tl' cm' has' W' ∧
    (∀ (ι : bm_S) (K : Int → bm_S → Prop) (H : Nat × Int → bm_S → Prop) (v2 : bm_V), cR ι β lim p 0 → SC ι lim s f rg PA pc wn g c → ι 8 0 15 = 0 → TD ι tl cm has W → (∀ ι' : bm_S, FC ι ι' p' r s' f' rg' PA' pc' tl' cm' has' W' → K (if r = 0 then s' else -10 - r) ι') → bW sc 69 10 [br 8 0, bi x1, v2] [] ι (bk1 K H)) ∧
    (∀ (ι : bm_S) (Q : bm_O → bm_S → Prop) (v2 : bm_V), mR ι β lim p → SM ι s f rg PA pc wn g c → TDm ι has W → (r = 0 → ∀ ι' : bm_S, RM β lim ι ι' p' s' f' rg' PA' pc' has' W' wn g c → Q (.inl none) ι') → (r ≠ 0 → ∀ ι' : bm_S, RE β lim ι ι' p' r rg' PA' pc' has' W' → bq Q (12, 0) ι') → bW sc 222 24 [br 13 0, bi 0, v2] [] ι Q) := by
  have hl := hw.2.2
  intro m
  induction m with
  | zero => intro s f rg PA pc tl cm has W p x1 hm; omega
  | succ m ih =>
    intro s f rg PA pc tl cm has W p x1 hm hs hCO hT hf hrg hx0 hx1 hpx hp1
    obtain ⟨p1, r1, la, s1, f1, rg1, PA1, pc1, tl1, cm1, has1, W1, ⟨v1, v2, v3, v4, v5, v6, v7⟩, hlt, i1, i2⟩ := j_part (sc := sc) (x1 := x1) (PA := PA) hw hs hCO (by omega) hT hf hrg (by omega) p (by omega) hp1
    by_cases hr : r1 = 0
    · obtain ⟨w1, w2, w3⟩ := v4 hr
      have hlt := hlt hr
      by_cases hla : la = 1
      · obtain ⟨p2, r2, k1, k2, k3, k4, k5⟩ := j_finish (sc := sc) hw (s := s1) (by omega) p1 (by omega) v1.2
        refine ⟨p2, r2, s1, f1, rg1, PA1, pc1, tl1, cm1, has1, W1, ⟨by omega, k2⟩, k3, fun _ => ⟨w1, w2, w3⟩, v6.1, v7, ?_, ?_⟩
        · intro ι K H v2 hR hS h15 hD h
          refine i1 ι _ v2 hR hS h15 hD (fun ι1 v' z => ?_)
          obtain ⟨a1, a2, a3, a4, a5, a6⟩ := z
          rw [hr] at a1
          obtain ⟨b1, b2⟩ := a2 hr
          have fin : bC sc 71 [br 8 0] ι1 (bk1 (fun r ι => K r ι) (bq (bk1 K H))) := by
            refine k4 ι1 _ _ a1 b1.1 (fun e ι2 x2 F2 => ?_) (fun e ι2 x2 y2 F2 => ?_)
            · have := h ι2 ⟨x2.1, by rw [if_pos e, F2 2 1 1 (by omega)]; exact b1.1, fun _ k x y => by rw [F2 20 1 k (by omega)]; exact b1.2.1 k x y, fun k x y => by rw [F2 51 0 k (by omega)]; exact a3.2.1 k x y, a3.2.2.fr F2 (fun j => by omega), by rw [F2 8 0 3 (by omega)]; exact a4, a5.fr v7 F2 (fun i j => by omega), a6.trans (F2.wide op_R)⟩
              rw [if_pos e] at this
              exact this
            · have := h ι2 ⟨x2, by rw [if_neg e]; exact y2, fun q => absurd q e, fun k x y => by rw [F2 51 0 k (by omega)]; exact a3.2.1 k x y, a3.2.2.fr F2 (fun j => by omega), by rw [F2 8 0 3 (by omega)]; exact a4, a5.fr v7 F2 (fun i j => by omega), a6.trans (F2.wide op_Rw)⟩
              rw [if_neg e] at this
              exact this
          exact e_O_openAll_10 (bif_i (fun _ => fin) (fun _ => bif_f (by rw [b2]; omega) fin))
        · intro ι Q v2 hR hS hD h hh
          refine i2 ι Q v2 hR hS hD (fun _ ι1 v' z => ?_) (fun e => absurd hr e)
          obtain ⟨a1, a2, a3, a4⟩ := z
          rw [hla]
          refine k5 ι1 Q v' a1 (fun e ι2 x2 F2 => h e ι2 ⟨x2, a2.R F2, a3.R F2, a4.trans (F2.wide gp_R)⟩) (fun e ι2 x2 y2 F2 => hh e ι2 ⟨x2, y2, a2.em.fr F2 (fun j => by omega), by rw [F2 13 0 19 (by omega)]; exact a2.2.2.2.2.1, a3.R F2, a4.trans (F2.wide gp_R)⟩)
      · have hla0 : la = 0 := by omega
        obtain ⟨p2, r2, s2, f2, rg2, PA2, pc2, tl2, cm2, has2, W2, k1, k2, k3, k4, k5, k6, k7⟩ := ih s1 f1 rg1 PA1 pc1 tl1 cm1 has1 W1 p1 (x1 + 1) (by omega) ⟨w1, w2⟩ ⟨v6.1, hCO.2⟩ v7 w3 v5 (by omega) (by omega) (by omega) v1.2
        refine ⟨p2, r2, s2, f2, rg2, PA2, pc2, tl2, cm2, has2, W2, by omega, k2, k3, k4, k5, ?_, ?_⟩
        · intro ι K H v2 hR hS h15 hD h
          refine i1 ι _ v2 hR hS h15 hD (fun ι1 v' z => ?_)
          obtain ⟨a1, a2, a3, a4, a5, a6⟩ := z
          rw [hr] at a1
          obtain ⟨b1, b2⟩ := a2 hr
          exact k6 ι1 K H v' a1 b1 (by rw [b2]; exact hla0) a5 (fun ι2 z => h ι2 (z.pre a6))
        · intro ι Q v2 hR hS hD h hh
          refine i2 ι Q v2 hR hS hD (fun _ ι1 v' z => ?_) (fun e => absurd hr e)
          obtain ⟨a1, a2, a3, a4⟩ := z
          rw [hla0]
          exact k7 ι1 Q v' a1 a2 a3 (fun e ι2 z => h e ι2 ⟨z.1, z.2.1, z.2.2.1, a4.trans z.2.2.2⟩) (fun e ι2 z => hh e ι2 ⟨z.1, z.2.1, z.2.2.1, z.2.2.2.1, z.2.2.2.2.1, a4.trans z.2.2.2.2.2⟩)
    · refine ⟨p1, r1, s1, f1, rg1, PA1, pc1, tl1, cm1, has1, W1, v1, v2, v4, v6.1, v7, ?_, ?_⟩
      · intro ι K H v2 hR hS h15 hD h
        refine i1 ι _ v2 hR hS h15 hD (fun ι1 v' z => ?_)
        obtain ⟨a1, a2, a3, a4, a5, a6⟩ := z
        have hne : ι1 0 0 3 ≠ 0 := by rw [a1.2.2.1]; exact hr
        have fin : bC sc 71 [br 8 0] ι1 (bk1 (fun r ι => K r ι) (bq (bk1 K H))) := by
          refine s_finish_err (by omega) (by omega) a1 a3.1 (fun ι2 x2 y2 F2 => ?_)
          have := h ι2 ⟨x2, by rw [if_neg hr]; exact y2, fun q => absurd q hr, fun k x y => by rw [F2 51 0 k (by omega)]; exact a3.2.1 k x y, a3.2.2.fr F2 (fun j => by omega), by rw [F2 8 0 3 (by omega)]; exact a4, a5.fr v7 F2 (fun i j => by omega), a6.trans (F2.wide fun t i j q => op_Rw t i j (Or.inr q))⟩
          rw [if_neg hr] at this
          exact this
        exact e_O_openAll_10 (bif_i (fun _ => fin) (fun _ => bif_i (fun _ => s_fine (fun e => absurd e hne) (fun _ => bif_t rfl fin)) (fun _ => fin)))
      · intro ι Q v2 hR hS hD h hh
        exact i2 ι Q v2 hR hS hD (fun e => absurd e hr) (fun e ι1 z => hh e ι1 z)
/-- a number, with the place behind it -/
theorem j_num16 (hw : wfβ β lim) (p : Int) (hp0 : 0 ≤ p) (hp1 : p ≤ lim) :
    ∃ (p' r v : Int), p ≤ p' ∧ p' ≤ lim ∧ (r = 0 ∧ p' = p + 16 ∨ r = 1) ∧ 0 ≤ v ∧ v < 65536 ∧
    (∀ (ι : bm_S) (K : Int → bm_S → Prop) (H : Nat × Int → bm_S → Prop), cR ι β lim p 0 → (∀ ι' : bm_S, cR ι' β lim p' r → Fr fR ι ι' → K v ι') → bC sc 4 [br 0 0, bi 16] ι (bk1 K H)) ∧
    (∀ (ι : bm_S) (K : Int → bm_S → Prop) (H : Nat × Int → bm_S → Prop), mR ι β lim p → (r = 0 → ∀ ι' : bm_S, mR ι' β lim p' → Fr gR ι ι' → K v ι') → (r ≠ 0 → ∀ ι' : bm_S, mR ι' β lim p' → ι' 12 0 6 = r → Fr gR ι ι' → H (12, 0) ι') → bC sc 174 [br 13 0, bi 16] ι (bk1 K H)) := by
  have e16 : bm_p2 ((16 : Nat) : Int) = 65536 := rfl
  by_cases c : p + 16 ≤ lim
  · have hv := nm_rg (β := β) (p := p) hw.1 16
    rw [e16] at hv
    refine ⟨p + 16, 0, nm β p 16, by omega, c, Or.inl ⟨rfl, rfl⟩, hv.1, hv.2, ?_, ?_⟩
    · intro ι K H hR h
      exact s_number hw (by omega) (by omega) hR (h _ hR.to ((Fr.refl _ _).u (by omega)))
    · intro ι K H hR h hh
      exact m_number hw (by omega) (by omega) hR (h rfl _ hR.to ((Fr.refl _ _).u (by omega)))
  · refine ⟨lim, 1, 0, by omega, by omega, Or.inr rfl, by omega, by omega, ?_, ?_⟩
    · intro ι K H hR h
      have F1 : Fr fR ι (up (up ι 0 0 1 lim) 0 0 3 1) := ((Fr.refl _ _).u (by omega)).u (by omega)
      exact s_number_end hw (by omega) hR (h _ (hR.fr F1 (fun j => by omega) (by simp (disch := omega) only [up_s, up_k, up_j, up_i]) (by simp (disch := omega) only [up_s, up_k, up_j, up_i])) F1)
    · intro ι K H hR h hh
      have F1 : Fr gR ι (up (up ι 13 0 16 lim) 12 0 6 1) := ((Fr.refl _ _).u (by omega)).u (by omega)
      exact m_number_end hw (by omega) (by omega) hR (hh (by omega) _ (hR.fr F1 (fun j => by omega) (by simp (disch := omega) only [up_s, up_k, up_j, up_i])) (by simp (disch := omega) only [up_s, up_k, up_j, up_i]) F1)
abbrev fSp (t : Nat) (i j : Int) : Prop := fR t i j ∨ t = 8 ∧ j = 13
abbrev gSp (t : Nat) (i j : Int) : Prop := gR t i j ∨ t = 13 ∧ j = 42
/-- how far the span goes, behind the digest -/
theorem j_span2 (hw : wfβ β lim) (p r0 : Int) (hp0 : 0 ≤ p) (hp1 : p ≤ lim) (hr0 : r0 = 0 ∨ 0 < r0 ∧ r0 < 18) :
    ∃ (p' r wn : Int), p ≤ p' ∧ p' ≤ lim ∧ (r0 ≠ 0 → r = r0 ∧ p' = p) ∧ (r = 0 ∨ 0 < r ∧ r < 18) ∧ (1 ≤ wn ∧ wn ≤ 100000000) ∧
    (∀ (ι : bm_S) (K : bm_S → Prop) (H : Nat × Int → bm_S → Prop), cR ι β lim p r0 → (∀ ι' : bm_S, cR ι' β lim p' r → ι' 8 0 13 = wn → Fr fSp ι ι' → K ι') →
      bC sc 4 [br 0 0, bi 1] ι (bk1 (fun r3 ι3 => (if r3 = (1 : Int) then bC sc 4 [br 0 0, bi 3] ι3 (bk1 (fun r4 ι4 => (if r4 ≤ (0 : Int) then bC sc 4 [br 0 0, bi 3] ι4 (bk1 (fun r5 ι5 => bC sc 73 [br 8 0, bi r5] ι5 (bk1 (fun r6 ι6 => ((0 ≤ r6 ∧ r6 < 32) ∧ bm_rg (1 * bm_p2 r6)) ∧ (bm_rg (1 * bm_p2 r6 - 16)) ∧ K (up ι6 8 0 13 (1 * bm_p2 r6 - 16))) H)) H) else (bm_rg (17 + r4)) ∧ ((0 ≤ 17 + r4 ∧ 17 + r4 < 32) ∧ bm_rg (1 * bm_p2 (17 + r4))) ∧ (bm_rg (1 * bm_p2 (17 + r4) - 16)) ∧ K (up ι4 8 0 13 (1 * bm_p2 (17 + r4) - 16)))) H) else ((0 ≤ (16 : Int) ∧ (16 : Int) < 32) ∧ bm_rg (1 * 65536)) ∧ (bm_rg (1 * 65536 - 16)) ∧ K (up ι3 8 0 13 (1 * 65536 - 16)))) H)) ∧
    (r0 = 0 → ∀ (ι : bm_S) (K : bm_S → Prop) (H : Nat × Int → bm_S → Prop), mR ι β lim p → (r = 0 → ∀ ι' : bm_S, mR ι' β lim p' → ι' 13 0 42 = wn → Fr gSp ι ι' → K ι') → (r ≠ 0 → ∀ ι' : bm_S, mR ι' β lim p' → ι' 12 0 6 = r → Fr gR ι ι' → H (12, 0) ι') → bC sc 219 [br 13 0] ι (bk0 K H)) := by
  have e8 : bm_p2 3 = 8 := rfl
  have e17 : bm_p2 17 = 131072 := rfl
  obtain ⟨p1, r1, v, i1, i2, i3, i4, i5, i6, i7, i8⟩ := jx_bit (sc := sc) hw p r0 hp0 hp1
  have up13 : ∀ (ι ι1 : bm_S) (q r x : Int) (K : bm_S → Prop), cR ι1 β lim q r → Fr fR ι ι1 → (∀ ι' : bm_S, cR ι' β lim q r → ι' 8 0 13 = x → Fr fSp ι ι' → K ι') → K (up ι1 8 0 13 x) := fun ι ι1 q r x K x1 F1 h => by
    have F2 : Fr fSp ι1 (up ι1 8 0 13 x) := (Fr.refl _ _).u (by omega)
    exact h _ (x1.fr F2 (fun j => by omega) (by simp (disch := omega) only [up_s, up_k, up_j, up_i]; exact x1.1) (by simp (disch := omega) only [up_s, up_k, up_j, up_i]; exact x1.2.2.1)) (by simp (disch := omega) only [up_s, up_k, up_j, up_i]) ((F1.wide fun t i j q => Or.inl q).trans F2)
  have um42 : ∀ (ι ι1 : bm_S) (q x : Int) (K : bm_S → Prop), mR ι1 β lim q → Fr gR ι ι1 → (∀ ι' : bm_S, mR ι' β lim q → ι' 13 0 42 = x → Fr gSp ι ι' → K ι') → K (up ι1 13 0 42 x) := fun ι ι1 q x K x1 F1 h => by
    have F2 : Fr gSp ι1 (up ι1 13 0 42 x) := (Fr.refl _ _).u (by omega)
    exact h _ (x1.fr F2 (fun j => by omega) (by simp (disch := omega) only [up_s, up_k, up_j, up_i]; exact x1.1)) (by simp (disch := omega) only [up_s, up_k, up_j, up_i]) ((F1.wide fun t i j q => Or.inl q).trans F2)
  have hr1 : r1 = 0 ∨ 0 < r1 ∧ r1 < 18 := by
    by_cases e : r0 = 0
    · have := i4 e; omega
    · have := i3 e; omega
  by_cases hv : v = 1
  · have hr10 : r1 = 0 := by
      by_cases e : r1 = 0
      · exact e
      · have := i5 e; omega
    obtain ⟨p2, r2, a, j1, j2, j3, j4, j5, j6, j7, j8⟩ := jx_number (sc := sc) hw 3 (by omega) p1 r1 (by omega) i2
    have j4 := j4 hr10
    rw [e8] at j6
    by_cases ha : a ≤ 0
    · obtain ⟨p3, r3, b, k1, k2, k3, k4, k5, k6, k7, k8⟩ := jx_number (sc := sc) hw 3 (by omega) p2 r2 (by omega) j2
      rw [e8] at k6
      have hr3 : r3 = 0 ∨ 0 < r3 ∧ r3 < 18 := by
        by_cases e : r2 = 0
        · have := k4 e; omega
        · have := k3 e; omega
      obtain ⟨x, hx⟩ : ∃ x, x = (if b = 0 then 17 else 8 + b) := ⟨_, rfl⟩
      have hx1 : 9 ≤ x ∧ x ≤ 17 := by rw [hx]; split <;> omega
      have hpx := p2_le (k := x) 17 hx1.2 131072 rfl
      have hpx9 := p2_mono hx1.1
      have e9 : bm_p2 9 = 512 := rfl
      obtain ⟨r, hr⟩ : ∃ r, r = (if r3 ≠ 0 then r3 else if b = 1 then 3 else 0) := ⟨_, rfl⟩
      have hr' : r = 0 ∨ 0 < r ∧ r < 18 := by grind
      refine ⟨p3, r, 1 * bm_p2 x - 16, by omega, k2, fun e => by have := i3 e; omega, hr', by omega, ?_, ?_⟩
      · intro ι K H hR h
        refine i7 ι _ _ hR (fun ι1 x1 F1 => bif_t hv (j7 ι1 _ _ x1 (fun ι2 x2 F2 => bif_t ha (k7 ι2 _ _ x2 (fun ι3 x3 F3 => ?_)))))
        have FR := (F1.trans F2).trans F3
        have fin : ∀ ι4 : bm_S, cR ι4 β lim p3 r → Fr fR ι ι4 → (if b = (0 : Int) then ((0 ≤ (17 : Int) ∧ (17 : Int) < 32) ∧ bm_rg (1 * bm_p2 17)) ∧ (bm_rg (1 * bm_p2 17 - 16)) ∧ K (up ι4 8 0 13 (1 * bm_p2 17 - 16)) else (bm_rg (8 + b)) ∧ (((0 ≤ 8 + b ∧ 8 + b < 32) ∧ bm_rg (1 * bm_p2 (8 + b))) ∧ (bm_rg (1 * bm_p2 (8 + b) - 16)) ∧ K (up ι4 8 0 13 (1 * bm_p2 (8 + b) - 16)))) := fun ι4 x4 F4 => by
          have q := up13 ι ι4 p3 r _ K x4 F4 h
          by_cases c : b = 0
          · rw [if_pos c] at hx ⊢
            rw [hx] at q hpx
            exact ⟨⟨by omega, by omega⟩, by omega, q⟩
          · rw [if_neg c] at hx ⊢
            rw [hx] at q hpx
            exact ⟨by omega, ⟨by omega, by omega⟩, by omega, q⟩
        refine e_O_shortSpan_0 (bif_i (fun c => s_broken (fun e => ?_) (fun e => ?_)) (fun c => ?_))
        · have e := x3.2.2.1.symm.trans e
          have F4 : Fr fR ι3 (up ι3 0 0 3 3) := (Fr.refl _ _).u (by omega)
          exact fin _ (x3.fr F4 (fun j => by omega) (by simp (disch := omega) only [up_s, up_k, up_j, up_i]; exact x3.1) (by simp (disch := omega) only [up_s, up_k, up_j, up_i]; rw [hr, if_neg (by omega), if_pos c])) (FR.trans F4)
        · have e : r3 ≠ 0 := fun q => e (x3.2.2.1.trans q)
          exact fin ι3 (by rw [hr, if_pos e]; exact x3) FR
        · refine fin ι3 ?_ FR
          by_cases e : r3 = 0
          · rw [hr, if_neg (by omega), if_neg c, ← e]; exact x3
          · rw [hr, if_pos e]; exact x3
      · intro e0 ι K H hR h hh
        refine e_M_readSpan_0 (i8 e0 ι _ _ hR (fun _ ι1 x1 F1 => bif_t hv (j8 hr10 ι1 _ _ x1 (fun e2 ι2 x2 F2 => ⟨by omega, bif_t (by omega) (k8 e2 ι2 _ _ x2 (fun e3 ι3 x3 F3 => ?_) (fun e3 ι3 x3 y3 F3 => ?_))⟩) (fun e2 ι2 x2 y2 F2 => ?_))) (fun e => absurd hr10 e))
        · have FR := (F1.trans F2).trans F3
          refine bif_i (fun c => ?_) (fun c => ?_)
          · have F4 : Fr gR ι3 (up ι3 12 0 6 3) := (Fr.refl _ _).u (by omega)
            exact m_fail (hh (by rw [hr, if_neg (by omega), if_pos c]; omega) _ (x3.fr F4 (fun j => by omega) (by simp (disch := omega) only [up_s, up_k, up_j, up_i]; exact x3.1)) (by simp (disch := omega) only [up_s, up_k, up_j, up_i]; rw [hr, if_neg (by omega), if_pos c]) (FR.trans F4))
          · have q := um42 ι ι3 p3 _ K x3 FR (h (by rw [hr, if_neg (by omega), if_neg c]))
            by_cases c0 : b = 0
            · rw [if_pos c0] at hx
              rw [hx, e17] at q
              exact bif_t c0 ⟨⟨by omega, by omega⟩, by omega, q⟩
            · rw [if_neg c0] at hx
              rw [hx] at q hpx
              exact bif_f c0 ⟨by omega, ⟨by omega, by omega⟩, by omega, q⟩
        · exact hh (by rw [hr, if_pos e3]; exact e3) ι3 x3 (by rw [hr, if_pos e3]; exact y3) ((F1.trans F2).trans F3)
        · have q := k3 e2
          exact hh (by rw [hr, if_pos (by omega)]; omega) ι2 (by rw [q.2]; exact x2) (by rw [hr, if_pos (by omega)]; omega) (F1.trans F2)
    · have hpx := p2_le (k := 17 + a) 24 (by omega) 16777216 rfl
      have hpx9 := p2_mono (a := 17) (b := 17 + a) (by omega)
      refine ⟨p2, r2, 1 * bm_p2 (17 + a) - 16, by omega, j2, fun e => by have := i3 e; omega, by omega, by omega, ?_, ?_⟩
      · intro ι K H hR h
        refine i7 ι _ _ hR (fun ι1 x1 F1 => bif_t hv (j7 ι1 _ _ x1 (fun ι2 x2 F2 => bif_f ha ⟨by omega, ⟨by omega, by omega⟩, by omega, up13 ι ι2 p2 r2 _ K x2 (F1.trans F2) h⟩)))
      · intro e0 ι K H hR h hh
        refine e_M_readSpan_0 (i8 e0 ι _ _ hR (fun _ ι1 x1 F1 => bif_t hv (j8 hr10 ι1 _ _ x1 (fun e2 ι2 x2 F2 => ⟨by omega, bif_f (by omega) ⟨⟨by omega, by omega⟩, by omega, um42 ι ι2 p2 _ K x2 (F1.trans F2) (h e2)⟩⟩) (fun e2 ι2 x2 y2 F2 => hh e2 ι2 x2 y2 (F1.trans F2)))) (fun e => absurd hr10 e))
  · refine ⟨p1, r1, 1 * 65536 - 16, i1, i2, i3, hr1, by omega, ?_, ?_⟩
    · intro ι K H hR h
      exact i7 ι _ _ hR (fun ι1 x1 F1 => bif_f hv ⟨⟨by omega, by omega⟩, by omega, up13 ι ι1 p1 r1 _ K x1 F1 h⟩)
    · intro e0 ι K H hR h hh
      exact e_M_readSpan_0 (i8 e0 ι _ _ hR (fun e1 ι1 x1 F1 => bif_f hv ⟨⟨by omega, by omega⟩, by omega, um42 ι ι1 p1 _ K x1 F1 (h e1)⟩) (fun e1 ι1 x1 y1 F1 => hh e1 ι1 x1 y1 F1))
end Loop
