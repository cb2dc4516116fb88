/-! a sign is read by both alike -/
section Signs2
variable {sc : bm_Sc} {β : Int → Int} {lim : Int}
theorem cR.fr {ι ι' : bm_S} {p p' r r' : Int} {P : Nat → Int → Int → Prop} (hR : cR ι β lim p r) (hF : Fr P ι ι') (hP : ∀ j, ¬ P 0 0 2 ∧ ¬ P 20 0 j) (h1 : ι' 0 0 1 = p') (h3 : ι' 0 0 3 = r') : cR ι' β lim p' r' := by
  obtain ⟨r1, r2, r3, r4⟩ := hR
  refine ⟨h1, by rw [hF 0 0 2 (hP 0).1, r2], h3, fun q a b => ?_⟩
  have : ι' 20 0 = ι 20 0 := funext fun j => hF _ _ _ (hP j).2
  rw [this]; exact r4 q a b
theorem mR.fr {ι ι' : bm_S} {p p' : Int} {P : Nat → Int → Int → Prop} (hR : mR ι β lim p) (hF : Fr P ι ι') (hP : ∀ j, ¬ P 13 0 15 ∧ ¬ P 74 0 j) (h1 : ι' 13 0 16 = p') : mR ι' β lim p' := by
  obtain ⟨r1, r2, r3⟩ := hR
  refine ⟨h1, by rw [hF 13 0 15 (hP 0).1, r2], fun q a b => ?_⟩
  have : ι' 74 0 = ι 74 0 := funext fun j => hF _ _ _ (hP j).2
  rw [this]; exact r3 q a b
theorem CodeC.fr {ι ι' : bm_S} {c lone : Int} {L : Int → Int} {a : Nat} {P : Nat → Int → Int → Prop} (h : CodeC ι c lone L a) (hF : Fr P ι ι') (hP : ∀ j, ¬ P 3 c 2 ∧ ¬ P 21 c j ∧ ¬ P 22 c j) : CodeC ι' c lone L a := by
  have e1 : ι' 3 c 2 = ι 3 c 2 := hF _ _ _ (hP 0).1
  have e2 : ι' 21 c = ι 21 c := funext fun j => hF _ _ _ (hP j).2.1
  have e3 : ι' 22 c = ι 22 c := funext fun j => hF _ _ _ (hP j).2.2
  unfold CodeC at h ⊢
  rw [e1, e2, e3]
  exact h
theorem CodeM.fr {ι ι' : bm_S} {st lone : Int} {L : Int → Int} {a : Nat} {P : Nat → Int → Int → Prop} (h : CodeM ι st lone L a) (hF : Fr P ι ι') (hP : ∀ s : Nat, s < a → ¬ P 73 0 st ∧ ¬ P 71 0 (st + s) ∧ ¬ P 72 0 (st + s)) (ha : 0 < a) : CodeM ι' st lone L a := by
  obtain ⟨h1, h2⟩ := h
  refine ⟨by rw [hF _ _ _ (hP 0 ha).1, h1], fun s hs => ?_⟩
  rw [hF _ _ _ (hP s hs).2.1, hF _ _ _ (hP s hs).2.2]
  exact h2 s hs
/-- level n: both go on or both are done -/
theorem j_sign {L : Int → Int} {a : Nat} (hw : wfβ β lim) (ha : 0 < a ∧ a ≤ 704) (hL : ∀ s : Nat, s < a → 0 ≤ L s ∧ L s ≤ 15) (hK : Fc L a 16 = 65536) : ∀ (m n : Nat) (p v : Int), n + 1 + m = 16 → 0 ≤ p → p ≤ lim → Fc L a n + mc L a n ≤ v → v < 2 ^ n →
    ∃ (p' r : Int) (s : Nat), p ≤ p' ∧ p' ≤ lim ∧ s < a ∧ (r = 0 ∨ r = 1 ∧ p' = lim) ∧
    (∀ (ι : bm_S) (c : Int) (H : Nat × Int → bm_S → Prop) (K : Int → bm_S → Prop), (a : Int) ≤ bm_L 22 c → cR ι β lim p 0 → CodeC ι c (-1) L a → (∀ ι', cR ι' β lim p' r → Fr fR ι ι' → K (if r = 0 then (s : Int) else 0) ι') → bW sc 5 40 [br 0 0, br 3 c, bi (v - Fc L a n - mc L a n), bi (bef L a (n + 1)), bi ((n + 1 : Nat) : Int)] [] ι (bk1 K H)) ∧
    (∀ (ι : bm_S) (st : Int) (v5 : bm_V) (H : Nat × Int → bm_S → Prop) (K : Int → bm_S → Prop), 0 ≤ st → st + a ≤ 18000 → mR ι β lim p → CodeM ι st (-1) L a → (r = 0 → ∀ ι', mR ι' β lim p' → Fr gR ι ι' → K s ι') → (r = 1 → ∀ ι', mR ι' β lim p' → ι' 12 0 6 = 1 → Fr gR ι ι' → H (12, 0) ι') → bW sc 176 21 [br 13 0, bi st, bi a, bi v, bi ((n + 1 : Nat) : Int), v5] [] ι (bk1 K H))
  | 0, n, p, v, hn, h0, h1, hv0, hv1 => by
    exfalso
    have e : n = 15 := by omega
    subst e
    have : Fc L a 16 = 2 * (Fc L a 15 + mc L a 15) := rfl
    omega
  | m + 1, n, p, v, hn, h0, h1, hv0, hv1 => by
    have w1 := hw.1
    obtain ⟨-, w2, w3, w4⟩ := hw
    have hFb := Fc_b L a ha.2 n (by omega)
    have hmc := mc_nn L a n
    have hmc1 := mc_nn L a (n + 1)
    have hbf := bef_nn L a (n + 1)
    have hbf2 : bef L a (n + 1) ≤ 16 * 704 := by
      have h9 : ((n + 1 : Nat) : Int) * a ≤ 16 * 704 := by
        have x1 : ((n + 1 : Nat) : Int) * a ≤ ((n + 1 : Nat) : Int) * 704 := Int.mul_le_mul_of_nonneg_left (by omega) (by omega)
        omega
      omega
    have hp2 := p16 (n := n) (by omega)
    by_cases hp : p = lim
    · subst hp
      refine ⟨p, 1, 0, by omega, by omega, ha.1, Or.inr ⟨rfl, rfl⟩, ?_, ?_⟩
      · intro ι c H K hc hR hC h
        have hR' := hR
        obtain ⟨r1, r2, r3, r4⟩ := hR
        refine e_R_signOf_40 (bif_f (by omega) (bif_t (by omega) ?_))
        have hF : Fr fR ι (up ι 0 0 3 1) := (Fr.refl _ _).u (by omega)
        exact h _ (hR'.fr hF (fun j => by omega) (by simp (disch := omega) only [up_s, up_k, up_j, up_i]; exact r1) (by simp (disch := omega) only [up_s, up_k, up_j, up_i])) hF
      · intro ι st v5 H K hst hst2 hR hM h hh
        refine e_M_sign_21 (bif_f (by omega) ⟨by omega, m_bit_end ⟨w1, w2, w3, w4⟩ hR ?_⟩)
        have hF : Fr gR ι (up ι 12 0 6 1) := (Fr.refl _ _).u (by omega)
        exact hh rfl _ (hR.fr hF (fun j => by omega) (by simp (disch := omega) only [up_s, up_k, up_j, up_i]; exact hR.1)) (by simp (disch := omega) only [up_s, up_k, up_j, up_i]) hF
    · have hb := w1 p
      have hF1 : Fc L a (n + 1) = 2 * (Fc L a n + mc L a n) := rfl
      have hw1 : 2 * (v - Fc L a n - mc L a n) + β p = 2 * v + β p - Fc L a (n + 1) := by omega
      have hv2 : 2 * v + β p < 2 ^ (n + 1) := by rw [Int.pow_succ]; omega
      have hmcn : mc L a (n + 1) = cn L ((n + 1 : Nat) : Int) a := by unfold mc; rw [if_neg (by omega)]
      by_cases hlt : 2 * v + β p - Fc L a (n + 1) < mc L a (n + 1)
      · -- found
        obtain ⟨s, hs1, hs2, hs3⟩ := cn_surj L ((n + 1 : Nat) : Int) (2 * v + β p - Fc L a (n + 1)) (by omega) a (by rw [← hmcn]; exact hlt)
        refine ⟨p + 1, 0, s, by omega, by omega, hs1, Or.inl rfl, ?_, ?_⟩
        · intro ι c H K hc hR hC h
          have hR' := hR
          obtain ⟨r1, r2, r3, r4⟩ := hR
          have hbit : ι 20 0 (p / 8) / bm_p2 (p % 8) % 2 = β p := r4 p (by omega) (by omega)
          rcases hC with hC | ⟨-, c1, c2, c3⟩
          · omega
          · have hmn := c2 (n + 1) (by omega) (by omega)
            have hsg := c3 s hs1 (by rw [hs2]; omega) (by rw [hs2]; omega)
            rw [hs2, hs3, show (((n + 1 : Nat) : Int)).toNat = n + 1 by omega] at hsg
            have hus : bef L a (n + 1) + (2 * v + β p - Fc L a (n + 1)) < ι 3 c 2 := by
              rw [c1]
              have h5 := bef_mono L a (n + 2) (14 - n)
              rw [show n + 2 + (14 - n) = 16 by omega] at h5
              have h6 : bef L a (n + 2) = bef L a (n + 1) + mc L a (n + 1) := rfl
              omega
            have hid : bef L a (n + 1) + (2 * v + β p - Fc L a (n + 1)) < bm_L 22 c := by
              have h5 : bef L a (n + 2) ≤ a := bef_le L (n + 2) a
              have h6 : bef L a (n + 2) = bef L a (n + 1) + mc L a (n + 1) := rfl
              omega
            refine e_R_signOf_40 (bif_f (by omega) (bif_f (by omega) ?_))
            rw [r1, hbit, hw1, hmn]
            refine ⟨by omega, by omega, by omega, by omega, by omega, by omega, bif_f (by omega) ⟨by omega, bif_f (by omega) ⟨by omega, by omega, by omega, ?_⟩⟩⟩
            rw [hsg]
            have hF : Fr fR ι (up ι 0 0 1 (p + 1)) := (Fr.refl _ _).u (by omega)
            exact h _ (hR'.fr hF (fun j => by omega) (by simp (disch := omega) only [up_s, up_k, up_j, up_i]) (by simp (disch := omega) only [up_s, up_k, up_j, up_i]; exact r3)) hF
        · intro ι st v5 H K hst hst2 hR hM h hh
          have hR' := hR
          obtain ⟨r1, r2, r3⟩ := hR
          refine e_M_sign_21 (bif_f (by omega) ⟨by omega, m_bit ⟨w1, w2, w3, w4⟩ (by omega) hR' ⟨by omega, ?_⟩⟩)
          have hF : Fr gR ι (up ι 13 0 16 (p + 1)) := (Fr.refl _ _).u (by omega)
          have hM' := hM.fr hF (fun s _ => by omega) ha.1
          have h7 := hM'.2 s hs1
          refine m_sign40 (s := (s : Int)) ⟨hst, hst2⟩ (by omega) (by rw [h7.1, hs2]) (by rw [h7.2 (by rw [hs2]; omega) (by rw [hs2]; omega), hs2, hs3, show (((n + 1 : Nat) : Int)).toNat = n + 1 by omega]; omega) s 0 (by omega) (by omega) (fun q q0 q1 => ?_) (h rfl _ (hR'.fr hF (fun j => by omega) (by simp (disch := omega) only [up_s, up_k, up_j, up_i])) hF)
          intro ⟨e1, e2⟩
          have h8 := hM'.2 q.toNat (by omega)
          rw [show ((q.toNat : Nat) : Int) = q by omega] at h8
          have h9 : L q = ((n + 1 : Nat) : Int) := by rw [← h8.1]; exact e1
          have h10 := h8.2 (by rw [h9]; omega) (by rw [h9]; omega)
          rw [h9, show (((n + 1 : Nat) : Int)).toNat = n + 1 by omega] at h10
          have h11 := cn_lt L ((n + 1 : Nat) : Int) (s := q.toNat) (a := s) (by omega) (by rw [show ((q.toNat : Nat) : Int) = q by omega]; exact h9)
          omega
      · -- on
        obtain ⟨p', r, s, i1, i2, i3, i4, i5, i6⟩ := j_sign ⟨w1, w2, w3, w4⟩ ha hL hK m (n + 1) (p + 1) (2 * v + β p) (by omega) (by omega) (by omega) (by omega) hv2
        refine ⟨p', r, s, by omega, i2, i3, i4, ?_, ?_⟩
        · intro ι c H K hc hR hC h
          have hR' := hR
          have hC' := hC
          obtain ⟨r1, r2, r3, r4⟩ := hR
          have hbit : ι 20 0 (p / 8) / bm_p2 (p % 8) % 2 = β p := r4 p (by omega) (by omega)
          rcases hC with hC | ⟨-, c1, c2, c3⟩
          · omega
          · have hmn := c2 (n + 1) (by omega) (by omega)
            refine e_R_signOf_40 (bif_f (by omega) (bif_f (by omega) ?_))
            rw [r1, hbit, hw1, hmn]
            refine ⟨by omega, by omega, by omega, by omega, by omega, by omega, bif_t (by omega) ⟨by omega, by omega, by omega, by omega, by omega, by omega, ?_⟩⟩
            have hF : Fr fR ι (up ι 0 0 1 (p + 1)) := (Fr.refl _ _).u (by omega)
            have := i5 (up ι 0 0 1 (p + 1)) c H K hc (hR'.fr hF (fun j => by omega) (by simp (disch := omega) only [up_s, up_k, up_j, up_i]) (by simp (disch := omega) only [up_s, up_k, up_j, up_i]; exact r3)) (hC'.fr hF (fun j => by omega)) (fun ι' g1 g2 => h ι' g1 (hF.trans g2))
            rw [show (((n + 1 + 1 : Nat) : Int)) = ((n + 1 : Nat) : Int) + 1 by omega] at this
            exact this
        · intro ι st v5 H K hst hst2 hR hM h hh
          have hR' := hR
          obtain ⟨r1, r2, r3⟩ := hR
          refine e_M_sign_21 (bif_f (by omega) ⟨by omega, m_bit ⟨w1, w2, w3, w4⟩ (by omega) hR' ⟨by omega, ?_⟩⟩)
          have hF : Fr gR ι (up ι 13 0 16 (p + 1)) := (Fr.refl _ _).u (by omega)
          have hM' := hM.fr hF (fun s _ => by omega) ha.1
          have hgo := i6 (up ι 13 0 16 (p + 1)) st (bi a) H K hst hst2 (hR'.fr hF (fun j => by omega) (by simp (disch := omega) only [up_s, up_k, up_j, up_i])) hM' (fun e ι' g1 g2 => h e ι' g1 (hF.trans g2)) (fun e ι' g1 g2 g3 => hh e ι' g1 g2 (hF.trans g3))
          rw [show (((n + 1 + 1 : Nat) : Int)) = ((n + 1 : Nat) : Int) + 1 by omega] at hgo
          refine m_sign40n (by omega) ⟨hst, hst2⟩ a 0 (by omega) (by omega) (fun q q0 q1 => ?_) hgo
          intro ⟨e1, e2⟩
          have h8 := hM'.2 q.toNat (by omega)
          rw [show ((q.toNat : Nat) : Int) = q by omega] at h8
          have h9 : L q = ((n + 1 : Nat) : Int) := by rw [← h8.1]; exact e1
          have h10 := h8.2 (by rw [h9]; omega) (by rw [h9]; omega)
          rw [h9, show (((n + 1 : Nat) : Int)).toNat = n + 1 by omega] at h10
          have h11 := cn_lt L ((n + 1 : Nat) : Int) (s := q.toNat) (a := a) (by omega) (by rw [show ((q.toNat : Nat) : Int) = q by omega]; exact h9)
          omega
/-- a sign -/
theorem j_signT {L : Int → Int} {a : Nat} {lone : Int} (hw : wfβ β lim) (ha : 0 < a ∧ a ≤ 704) (hO : CodeOK lone L a) (p : Int) (h0 : 0 ≤ p) (h1 : p ≤ lim) :
    ∃ (p' r : Int) (s : Nat), p ≤ p' ∧ p' ≤ lim ∧ s < a ∧ (r = 0 ∨ r = 1 ∧ p' = lim) ∧
    (∀ (ι : bm_S) (c : Int) (H : Nat × Int → bm_S → Prop) (K : Int → bm_S → Prop), (a : Int) ≤ bm_L 22 c → cR ι β lim p 0 → CodeC ι c lone L a → (∀ ι', cR ι' β lim p' r → Fr fR ι ι' → K (if r = 0 then (s : Int) else 0) ι') → bC sc 5 [br 0 0, br 3 c] ι (bk1 K H)) ∧
    (∀ (ι : bm_S) (st : Int) (H : Nat × Int → bm_S → Prop) (K : Int → bm_S → Prop), 0 ≤ st → st + a ≤ 18000 → mR ι β lim p → CodeM ι st lone L a → (r = 0 → ∀ ι', mR ι' β lim p' → Fr gR ι ι' → K s ι') → (r = 1 → ∀ ι', mR ι' β lim p' → ι' 12 0 6 = 1 → Fr gR ι ι' → H (12, 0) ι') → bC sc 176 [br 13 0, bi st, bi a] ι (bk1 K H)) := by
  obtain ⟨hL, hO⟩ := hO
  rcases hO with ⟨l1, l2⟩ | ⟨rfl, l1⟩
  · refine ⟨p, 0, lone.toNat, by omega, h1, by omega, Or.inl rfl, ?_, ?_⟩
    · intro ι c H K hc hR hC h
      have hR' := hR
      obtain ⟨r1, r2, r3, r4⟩ := hR
      rcases hC with ⟨c0, c1, c2, c3⟩ | ⟨c0, -⟩
      · refine e_R_signOf_0 (bif_t r3 (bif_f (by omega) (bif_t r3 ⟨by omega, ?_⟩)))
        rw [c2]
        have := h ι hR' (Fr.refl _ _)
        rw [if_pos rfl, show ((lone.toNat : Nat) : Int) = lone by omega] at this
        exact this
      · omega
    · intro ι st H K hst hst2 hR hM h hh
      refine e_M_sign_0 ⟨by omega, bif_f (by rw [hM.1]; omega) ⟨by omega, ?_⟩⟩
      rw [hM.1]
      have := h rfl ι hR (Fr.refl _ _)
      rw [show ((lone.toNat : Nat) : Int) = lone by omega] at this
      exact this
  · obtain ⟨p', r, s, i1, i2, i3, i4, i5, i6⟩ := j_sign (sc := sc) hw ha hL l1 15 0 p 0 (by omega) h0 h1 (show (0 : Int) + 0 ≤ 0 by omega) (by decide)
    refine ⟨p', r, s, i1, i2, i3, i4, ?_, ?_⟩
    · intro ι c H K hc hR hC h
      have hC' := hC
      have h16 := Fc16 L a
      rcases hC with ⟨c0, -⟩ | ⟨c0, c1, c2, c3⟩
      · omega
      · exact e_R_signOf_0 (bif_t hR.2.2.1 (bif_t (by omega) (i5 ι c H K hc hR hC' h)))
    · intro ι st H K hst hst2 hR hM h hh
      exact e_M_sign_0 ⟨by omega, bif_t (by rw [hM.1]; omega) (i6 ι st _ H K hst hst2 hR hM h hh)⟩
theorem s_sign_bad {ι : bm_S} {c : Int} {H : Nat × Int → bm_S → Prop} {K : Int → bm_S → Prop} (hr : ι 0 0 3 ≠ 0) (h : K 0 ι) : bC sc 5 [br 0 0, br 3 c] ι (bk1 K H) := e_R_signOf_0 (bif_f hr (bif_f hr h))
end Signs2
