/-! how many; blocks -/
section Blocks
variable {sc : bm_Sc} {β : Int → Int} {lim : Int}
/-- how many kinds or trees -/
theorem j_howMany (hw : wfβ β lim) (p : Int) (h0 : 0 ≤ p) (h1 : p ≤ lim) : ∃ (p' r v : Int), p ≤ p' ∧ p' ≤ lim ∧ (r = 0 ∨ r = 7 ∨ r = 1 ∧ p' = lim) ∧ 1 ≤ v ∧ (r = 0 → v ≤ 12) ∧
    (∀ (ι : bm_S) (K : Int → bm_S → Prop) (H : Nat × Int → bm_S → Prop), cR ι β lim p 0 → (∀ (ι' : bm_S) (x : Int), cR ι' β lim p' r → (r = 0 → x = v) → Fr fR ι ι' → K x ι') → bC sc 80 [br 8 0] ι (bk1 K H)) ∧
    (∀ (ι : bm_S) (K : Int → bm_S → Prop) (H : Nat × Int → bm_S → Prop), mR ι β lim p → (r = 0 → ∀ ι' : bm_S, mR ι' β lim p' → Fr gR ι ι' → K v ι') → (r ≠ 0 → ∀ ι' : bm_S, mR ι' β lim p' → ι' 12 0 6 = r → Fr gR ι ι' → H (12, 0) ι') → bC sc 190 [br 13 0] ι (bk1 K H)) := by
  have w1 := hw.1
  by_cases c1 : p = lim
  · subst c1
    refine ⟨p, 1, 1, by omega, by omega, by omega, by omega, fun e => by omega, ?_, ?_⟩
    · intro ι K H hR h
      exact e_O_readHowMany_0 (s_bit_end hw hR fun ι1 a1 a2 => bif_t rfl (h _ _ a1 (fun e => by omega) a2))
    · intro ι K H hR h hh
      exact e_M_howMany_0 (m_bit_end' hw hR fun ι1 a1 a2 a3 => hh (by omega) ι1 a1 a2 a3)
  · by_cases d1 : β p = 0
    · refine ⟨p + 1, 0, 1, by omega, by omega, by omega, by omega, fun e => by omega, ?_, ?_⟩
      · intro ι K H hR h
        exact e_O_readHowMany_0 (s_bit hw (by omega) hR fun ι1 a1 a2 => bif_t d1 (h _ _ a1 (fun _ => rfl) a2))
      · intro ι K H hR h hh
        exact e_M_howMany_0 (m_bit' hw (by omega) hR fun ι1 a1 a2 => bif_f (by omega) (h rfl _ a1 a2))
    · have d2 : β p = 1 := by have := w1 p; omega
      by_cases c2 : p + 1 + 3 ≤ lim
      · have hv := nm3 (p := p + 1) w1
        have hp2 := p2_le (k := nm β (p + 1) (Int.toNat 3)) 7 (by omega) 128 rfl
        by_cases c3 : p + 1 + 3 + nm β (p + 1) (Int.toNat 3) ≤ lim
        · have hv2 := nm_rg (p := p + 1 + 3) w1 (nm β (p + 1) (Int.toNat 3)).toNat
          rw [show (((nm β (p + 1) (Int.toNat 3)).toNat : Nat) : Int) = nm β (p + 1) (Int.toNat 3) by omega] at hv2
          by_cases c4 : 1 + 1 * bm_p2 (nm β (p + 1) (Int.toNat 3)) + nm β (p + 1 + 3) (nm β (p + 1) (Int.toNat 3)).toNat ≤ 12
          · refine ⟨p + 1 + 3 + nm β (p + 1) (Int.toNat 3), 0, 1 + 1 * bm_p2 (nm β (p + 1) (Int.toNat 3)) + nm β (p + 1 + 3) (nm β (p + 1) (Int.toNat 3)).toNat, by omega, c3, by omega, by omega, fun _ => c4, ?_, ?_⟩
            · intro ι K H hR h
              refine e_O_readHowMany_0 (s_bit hw (by omega) hR fun ι1 a1 a2 => bif_f (by omega) (s_number hw (by omega) (by omega) a1 ⟨by omega, by omega, s_number hw (by omega) (by omega) a1.to ⟨by omega, bif_t c4 ?_⟩⟩))
              exact h _ _ (a1.to.to) (fun _ => rfl) ((a2.u (by omega)).u (by omega))
            · intro ι K H hR h hh
              refine e_M_howMany_0 (m_bit' hw (by omega) hR fun ι1 a1 a2 => bif_t d2 (m_number hw (by omega) (by omega) a1 ⟨by omega, by omega, m_number hw (by omega) (by omega) a1.to ⟨by omega, bif_t c4 ?_⟩⟩))
              exact h rfl _ (a1.to.to) ((a2.u (by omega)).u (by omega))
          · refine ⟨p + 1 + 3 + nm β (p + 1) (Int.toNat 3), 7, 1, by omega, c3, by omega, by omega, fun e => by omega, ?_, ?_⟩
            · intro ι K H hR h
              refine e_O_readHowMany_0 (s_bit hw (by omega) hR fun ι1 a1 a2 => bif_f (by omega) (s_number hw (by omega) (by omega) a1 ⟨by omega, by omega, s_number hw (by omega) (by omega) a1.to ⟨by omega, bif_f c4 (s_broken (fun _ => ?_) (fun e => absurd (a1.to (q := p + 1 + 3)).to.2.2.1 e))⟩⟩))
              have hF : Fr fR ι (up (up (up ι1 0 0 1 (p + 1 + 3)) 0 0 1 (p + 1 + 3 + nm β (p + 1) (Int.toNat 3))) 0 0 3 7) := ((a2.u (by omega)).u (by omega)).u (by omega)
              exact h _ _ (hR.fr hF (fun j => by omega) (by simp (disch := omega) only [up_s, up_k, up_j, up_i]) (by simp (disch := omega) only [up_s, up_k, up_j, up_i])) (fun e => by omega) hF
            · intro ι K H hR h hh
              refine e_M_howMany_0 (m_bit' hw (by omega) hR fun ι1 a1 a2 => bif_t d2 (m_number hw (by omega) (by omega) a1 ⟨by omega, by omega, m_number hw (by omega) (by omega) a1.to ⟨by omega, bif_f c4 (m_fail ?_)⟩⟩))
              have hF : Fr gR ι (up (up (up ι1 13 0 16 (p + 1 + 3)) 13 0 16 (p + 1 + 3 + nm β (p + 1) (Int.toNat 3))) 12 0 6 7) := ((a2.u (by omega)).u (by omega)).u (by omega)
              exact hh (by omega) _ (hR.fr hF (fun j => by omega) (by simp (disch := omega) only [up_s, up_k, up_j, up_i])) (by simp (disch := omega) only [up_s, up_k, up_j, up_i]) hF
        · refine ⟨lim, 1, 1, by omega, by omega, by omega, by omega, fun e => by omega, ?_, ?_⟩
          · intro ι K H hR h
            refine e_O_readHowMany_0 (s_bit hw (by omega) hR fun ι1 a1 a2 => bif_f (by omega) (s_number hw (by omega) (by omega) a1 ⟨by omega, by omega, s_number_end hw (by omega) a1.to ⟨by omega, ?_⟩⟩))
            have hF : Fr fR ι (up (up (up ι1 0 0 1 (p + 1 + 3)) 0 0 1 lim) 0 0 3 1) := ((a2.u (by omega)).u (by omega)).u (by omega)
            have hC : cR (up (up (up ι1 0 0 1 (p + 1 + 3)) 0 0 1 lim) 0 0 3 1) β lim lim 1 := hR.fr hF (fun j => by omega) (by simp (disch := omega) only [up_s, up_k, up_j, up_i]) (by simp (disch := omega) only [up_s, up_k, up_j, up_i])
            exact bif_i (fun _ => h _ _ hC (fun e => by omega) hF) (fun _ => s_broken (fun e => absurd e (by rw [hC.2.2.1]; omega)) (fun _ => h _ _ hC (fun e => by omega) hF))
          · intro ι K H hR h hh
            refine e_M_howMany_0 (m_bit' hw (by omega) hR fun ι1 a1 a2 => bif_t d2 (m_number hw (by omega) (by omega) a1 ⟨by omega, by omega, m_number_end hw (by omega) (by omega) a1.to ?_⟩))
            have hF : Fr gR ι (up (up (up ι1 13 0 16 (p + 1 + 3)) 13 0 16 lim) 12 0 6 1) := ((a2.u (by omega)).u (by omega)).u (by omega)
            exact hh (by omega) _ (hR.fr hF (fun j => by omega) (by simp (disch := omega) only [up_s, up_k, up_j, up_i])) (by simp (disch := omega) only [up_s, up_k, up_j, up_i]) hF
      · refine ⟨lim, 1, 1, by omega, by omega, by omega, by omega, fun e => by omega, ?_, ?_⟩
        · intro ι K H hR h
          have e1 : bm_p2 0 = 1 := rfl
          refine e_O_readHowMany_0 (s_bit hw (by omega) hR fun ι1 a1 a2 => bif_f (by omega) (s_number_end hw (by omega) a1 ⟨by omega, by omega, ?_⟩))
          have hF : Fr fR ι (up (up ι1 0 0 1 lim) 0 0 3 1) := (a2.u (by omega)).u (by omega)
          have hC : cR (up (up ι1 0 0 1 lim) 0 0 3 1) β lim lim 1 := hR.fr hF (fun j => by omega) (by simp (disch := omega) only [up_s, up_k, up_j, up_i]) (by simp (disch := omega) only [up_s, up_k, up_j, up_i])
          refine s_number_bad (by rw [hC.2.2.1]; omega) ⟨by omega, bif_t (by omega) (h _ _ hC (fun e => by omega) hF)⟩
        · intro ι K H hR h hh
          refine e_M_howMany_0 (m_bit' hw (by omega) hR fun ι1 a1 a2 => bif_t d2 (m_number_end hw (by omega) (by omega) a1 ?_))
          have hF : Fr gR ι (up (up ι1 13 0 16 lim) 12 0 6 1) := (a2.u (by omega)).u (by omega)
          exact hh (by omega) _ (hR.fr hF (fun j => by omega) (by simp (disch := omega) only [up_s, up_k, up_j, up_i])) (by simp (disch := omega) only [up_s, up_k, up_j, up_i]) hF
theorem s_howMany_err {ι : bm_S} {K : Int → bm_S → Prop} {H : Nat × Int → bm_S → Prop} (hr : ι 0 0 3 ≠ 0) (h : K 1 ι) : bC sc 80 [br 8 0] ι (bk1 K H) := e_O_readHowMany_0 (s_number_bad hr (bif_t rfl h))
def cb (k : Int) : Int := bt_209.getD k.toNat 0
def ct (k : Int) : Int := bt_210.getD k.toNat 0
theorem cb_v : ((List.range 26).all fun k => decide (1 ≤ cb (k : Int)) && decide (cb (k : Int) ≤ 16625) && decide (2 ≤ ct (k : Int)) && decide (ct (k : Int) ≤ 24) && decide (ct (k : Int) = if (16 : Int) ≤ k then (if (18 : Int) ≤ k then (if (25 : Int) ≤ k then 24 else (k : Int) - 11) else 6) else 2 + (k : Int) / 4)) = true := by decide +kernel
theorem cb_rg {k : Int} (hk : 0 ≤ k ∧ k < 26) : (1 ≤ cb k ∧ cb k ≤ 16625) ∧ (2 ≤ ct k ∧ ct k ≤ 24) ∧ ct k = if (16 : Int) ≤ k then (if (18 : Int) ≤ k then (if (25 : Int) ≤ k then 24 else k - 11) else 6) else 2 + k / 4 := by
  have h1 := List.all_eq_true.mp cb_v k.toNat (List.mem_range.mpr (by omega))
  rw [show ((k.toNat : Nat) : Int) = k by omega] at h1
  simp only [Bool.and_eq_true, decide_eq_true_eq] at h1
  exact ⟨h1.1.1.1, ⟨h1.1.1.2, h1.1.2⟩, h1.2⟩
theorem m_countBits {ι : bm_S} {K : Int → bm_S → Prop} {H : Nat × Int → bm_S → Prop} {k : Int} (hk : 0 ≤ k ∧ k < 26) (h : K (ct k) ι) : bC sc 192 [bi k] ι (bk1 K H) := by
  have e := (cb_rg hk).2.2
  rw [e] at h
  refine e_M_countBits_0 (bif_i (fun q => bif_i (fun q1 => bif_i (fun q2 => ?_) (fun q2 => ⟨by omega, ?_⟩)) (fun q1 => ?_)) (fun q => ⟨by omega, by omega, ?_⟩))
  · rw [if_pos q, if_pos q1, if_pos q2] at h; exact h
  · rw [if_pos q, if_pos q1, if_neg q2] at h; exact h
  · rw [if_pos q, if_neg q1] at h; exact h
  · rw [if_neg q] at h; exact h
theorem m_countBase {ι : bm_S} {K : Int → bm_S → Prop} {H : Nat × Int → bm_S → Prop} {k : Int} (hk : 0 ≤ k ∧ k < 26) (h : K (cb k) ι) : bC sc 191 [bi k] ι (bk1 K H) := by
  refine e_M_countBase_0 ?_
  obtain ⟨n, rfl⟩ : ∃ n : Nat, k = n := ⟨k.toNat, by omega⟩
  have hn : n < 26 := by omega
  match n, hn with
  | 0, _ => exact bif_t rfl h
  | 1, _ => exact bif_f (by omega) (bif_t rfl h)
  | 2, _ => exact bif_f (by omega) (bif_f (by omega) (bif_t rfl h))
  | n + 3, hn => refine bif_f (by omega) (bif_f (by omega) (bif_f (by omega) ?_)); match n, hn with
    | 0, _ => exact bif_t rfl h
    | 1, _ => exact bif_f (by omega) (bif_t rfl h)
    | 2, _ => exact bif_f (by omega) (bif_f (by omega) (bif_t rfl h))
    | n + 3, hn => refine bif_f (by omega) (bif_f (by omega) (bif_f (by omega) ?_)); match n, hn with
      | 0, _ => exact bif_t rfl h
      | 1, _ => exact bif_f (by omega) (bif_t rfl h)
      | 2, _ => exact bif_f (by omega) (bif_f (by omega) (bif_t rfl h))
      | n + 3, hn => refine bif_f (by omega) (bif_f (by omega) (bif_f (by omega) ?_)); match n, hn with
        | 0, _ => exact bif_t rfl h
        | 1, _ => exact bif_f (by omega) (bif_t rfl h)
        | 2, _ => exact bif_f (by omega) (bif_f (by omega) (bif_t rfl h))
        | n + 3, hn => refine bif_f (by omega) (bif_f (by omega) (bif_f (by omega) ?_)); match n, hn with
          | 0, _ => exact bif_t rfl h
          | 1, _ => exact bif_f (by omega) (bif_t rfl h)
          | 2, _ => exact bif_f (by omega) (bif_f (by omega) (bif_t rfl h))
          | n + 3, hn => refine bif_f (by omega) (bif_f (by omega) (bif_f (by omega) ?_)); match n, hn with
            | 0, _ => exact bif_t rfl h
            | 1, _ => exact bif_f (by omega) (bif_t rfl h)
            | 2, _ => exact bif_f (by omega) (bif_f (by omega) (bif_t rfl h))
            | n + 3, hn => refine bif_f (by omega) (bif_f (by omega) (bif_f (by omega) ?_)); match n, hn with
              | 0, _ => exact bif_t rfl h
              | 1, _ => exact bif_f (by omega) (bif_t rfl h)
              | 2, _ => exact bif_f (by omega) (bif_f (by omega) (bif_t rfl h))
              | n + 3, hn => refine bif_f (by omega) (bif_f (by omega) (bif_f (by omega) ?_)); match n, hn with
                | 0, _ => exact bif_t rfl h
                | 1, _ => exact bif_f (by omega) (bif_t rfl h)
                | 2, _ => exact bif_f (by omega) (bif_f (by omega) (bif_t rfl h))
                | 3, _ => exact bif_f (by omega) (bif_f (by omega) (bif_f (by omega) (bif_t rfl h)))
                | 4, _ => exact bif_f (by omega) (bif_f (by omega) (bif_f (by omega) (bif_f (by omega) h)))
                | n + 5, hn => omega
theorem X209 {k : Int} : bm_X sc 209 k = cb k := rfl
theorem X210 {k : Int} : bm_X sc 210 k = ct k := rfl
/-- a count by a code of 26 signs -/
theorem j_count (hw : wfβ β lim) {lc : Int} {Lc : Int → Int} (hO : CodeOK lc Lc 26) (q : Int) (hq : 0 ≤ q ∧ q < 3) (p : Int) (h0 : 0 ≤ p) (h1 : p ≤ lim) : ∃ (p' r v : Int), p ≤ p' ∧ p' ≤ lim ∧ (r = 0 ∨ r = 1 ∧ p' = lim) ∧ 1 ≤ v ∧ v ≤ 20000000 ∧
    (∀ (ι : bm_S) (K : bm_S → Prop) (H : Nat × Int → bm_S → Prop), cR ι β lim p 0 → CodeC ι (75 + 2 * q) lc Lc 26 → (∀ (ι' : bm_S), cR ι' β lim p' r → (r = 0 → ι' 1 q 5 = v) → (0 ≤ ι' 1 q 5 ∧ ι' 1 q 5 ≤ 20000000) → Fr (fun t i j => fR t i j ∨ t = 1 ∧ i = q ∧ j = 5) ι ι' → K ι') → bC sc 11 [br 1 q, br 0 0] ι (bk0 K H)) ∧
    (∀ (ι : bm_S) (K : Int → bm_S → Prop) (H : Nat × Int → bm_S → Prop), mR ι β lim p → CodeM ι (42 + 26 * q) lc Lc 26 → (r = 0 → ∀ ι' : bm_S, mR ι' β lim p' → Fr gR ι ι' → K v ι') → (r ≠ 0 → ∀ ι' : bm_S, mR ι' β lim p' → ι' 12 0 6 = 1 → Fr gR ι ι' → H (12, 0) ι') → bC sc 193 [br 13 0, bi q] ι (bk1 K H)) := by
  have w1 := hw.1
  have hcap : ((26 : Nat) : Int) ≤ bm_L 22 (75 + 2 * q) := by
    rcases (show q = 0 ∨ q = 1 ∨ q = 2 by omega) with rfl | rfl | rfl <;> decide
  obtain ⟨p1, r1, s, i1, i2, i3, i4, i5, i6⟩ := j_signT (sc := sc) (a := 26) hw (by omega) hO p h0 h1
  have hcb := cb_rg (k := (s : Int)) (by omega)
  have hcb0 := cb_rg (k := 0) (by omega)
  by_cases hr : r1 = 0
  · by_cases hp : p1 + ct s ≤ lim
    · have hv := nm_rg (p := p1) w1 (ct s).toNat
      have hp2 := p2_le (k := (((ct s).toNat : Nat) : Int)) 24 (by omega) 16777216 rfl
      refine ⟨p1 + ct s, 0, cb s + nm β p1 (ct s).toNat, by omega, hp, by omega, by omega, by omega, ?_, ?_⟩
      · intro ι K H hR hC h
        refine e_K_readCount_0 (i5 ι _ _ _ hcap hR hC fun ι1 a1 a2 => ?_)
        rw [hr] at a1
        rw [if_pos hr, X209, X210]
        refine bif_f (by omega) ⟨by omega, by omega, s_number hw (by omega) (by omega) a1 ⟨by omega, ?_⟩⟩
        have hF : Fr (fun t i j => fR t i j ∨ t = 1 ∧ i = q ∧ j = 5) ι (up (up ι1 0 0 1 (p1 + ct s)) 1 q 5 (cb s + nm β p1 (ct s).toNat)) := ((a2.wide fun t i j q => by omega).u (by omega)).u (by omega)
        exact h _ (hR.fr hF (fun j => by omega) (by simp (disch := omega) only [up_s, up_k, up_j, up_i]) (by simp (disch := omega) only [up_s, up_k, up_j, up_i]; exact a1.2.2.1)) (fun _ => by simp (disch := omega) only [up_s, up_k, up_j, up_i]) (by simp (disch := omega) only [up_s, up_k, up_j, up_i]; omega) hF
      · intro ι K H hR hM h hh
        refine e_M_blockCount_0 ⟨by omega, by omega, i6 ι _ _ _ (by omega) (by omega) hR hM (fun _ ι1 a1 a2 => m_countBase (by omega) (m_countBits (by omega) (m_number hw (by omega) (by omega) a1 ⟨by omega, ?_⟩))) (fun e => by omega)⟩
        exact h rfl _ a1.to (a2.u (by omega))
    · refine ⟨lim, 1, 1, by omega, by omega, by omega, by omega, by omega, ?_, ?_⟩
      · intro ι K H hR hC h
        refine e_K_readCount_0 (i5 ι _ _ _ hcap hR hC fun ι1 a1 a2 => ?_)
        rw [hr] at a1
        rw [if_pos hr, X209, X210]
        refine bif_f (by omega) ⟨by omega, by omega, s_number_end hw (by omega) a1 ⟨by omega, ?_⟩⟩
        have hF : Fr (fun t i j => fR t i j ∨ t = 1 ∧ i = q ∧ j = 5) ι (up (up (up ι1 0 0 1 lim) 0 0 3 1) 1 q 5 (cb s + 0)) := (((a2.wide fun t i j q => by omega).u (by omega)).u (by omega)).u (by omega)
        exact h _ (hR.fr hF (fun j => by omega) (by simp (disch := omega) only [up_s, up_k, up_j, up_i]) (by simp (disch := omega) only [up_s, up_k, up_j, up_i])) (fun e => by omega) (by simp (disch := omega) only [up_s, up_k, up_j, up_i]; omega) hF
      · intro ι K H hR hM h hh
        refine e_M_blockCount_0 ⟨by omega, by omega, i6 ι _ _ _ (by omega) (by omega) hR hM (fun _ ι1 a1 a2 => m_countBase (by omega) (m_countBits (by omega) (m_number_end hw (by omega) (by omega) a1 ?_))) (fun e => by omega)⟩
        have hF : Fr gR ι (up (up ι1 13 0 16 lim) 12 0 6 1) := (a2.u (by omega)).u (by omega)
        exact hh (by omega) _ (hR.fr hF (fun j => by omega) (by simp (disch := omega) only [up_s, up_k, up_j, up_i])) (by simp (disch := omega) only [up_s, up_k, up_j, up_i]) hF
  · have hr1 : r1 = 1 ∧ p1 = lim := by omega
    refine ⟨p1, 1, 1, by omega, i2, by omega, by omega, by omega, ?_, ?_⟩
    · intro ι K H hR hC h
      refine e_K_readCount_0 (i5 ι _ _ _ hcap hR hC fun ι1 a1 a2 => ?_)
      rw [hr1.1] at a1
      rw [if_neg hr, X209, X210]
      refine bif_f (by omega) ⟨by omega, by omega, s_number_bad (by rw [a1.2.2.1]; omega) ⟨by omega, ?_⟩⟩
      have hF : Fr (fun t i j => fR t i j ∨ t = 1 ∧ i = q ∧ j = 5) ι (up ι1 1 q 5 (cb 0 + 0)) := (a2.wide fun t i j q => by omega).u (by omega)
      exact h _ (hR.fr hF (fun j => by omega) (by simp (disch := omega) only [up_s, up_k, up_j, up_i]; exact a1.1) (by simp (disch := omega) only [up_s, up_k, up_j, up_i]; exact a1.2.2.1)) (fun e => by omega) (by simp (disch := omega) only [up_s, up_k, up_j, up_i]; omega) hF
    · intro ι K H hR hM h hh
      exact e_M_blockCount_0 ⟨by omega, by omega, i6 ι _ _ _ (by omega) (by omega) hR hM (fun e => absurd e hr) (fun _ ι1 a1 a2 a3 => hh (by omega) ι1 a1 a2 a3)⟩
theorem s_count_err {ι : bm_S} {K : bm_S → Prop} {H : Nat × Int → bm_S → Prop} {q : Int} (hr : ι 0 0 3 ≠ 0) (h : K (up ι 1 q 5 (1 + 0))) : bC sc 11 [br 1 q, br 0 0] ι (bk0 K H) := e_K_readCount_0 (s_sign_bad hr (bif_f (by omega) ⟨by omega, by omega, s_number_bad hr ⟨show bm_rg ((1 : Int) + 0) by omega, h⟩⟩))
end Blocks
