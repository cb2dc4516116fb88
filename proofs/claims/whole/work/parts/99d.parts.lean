/-! the parts of a row: bits, whole bytes, new parts, raw parts -/
section Parts
variable {sc : bm_Sc} {β : Int → Int} {lim : Int}
theorem nm_1 {p : Int} : nm β p 1 = β p := by
  show nm β p 0 + β (p + (0 : Nat)) * bm_p2 (0 : Nat) = β p
  have e : bm_p2 ((0 : Nat) : Int) = 1 := rfl
  rw [e, show p + ((0 : Nat) : Int) = p by omega]
  show 0 + β p * 1 = β p
  omega
/-- a bit -/
theorem jx_bit (hw : wfβ β lim) (p r0 : Int) (hp0 : 0 ≤ p) (hp1 : p ≤ lim) :
    ∃ (p' r v : Int), p ≤ p' ∧ p' ≤ lim ∧ (r0 ≠ 0 → r = r0 ∧ p' = p) ∧ (r0 = 0 → (r = 0 ∧ p' = p + 1) ∨ r = 1) ∧ (r ≠ 0 → v = 0) ∧ (v = 0 ∨ v = 1) ∧
    (∀ (ι : bm_S) (K : Int → bm_S → Prop) (H : Nat × Int → bm_S → Prop), cR ι β lim p r0 → (∀ ι' : bm_S, cR ι' β lim p' r → Fr fR ι ι' → K v ι') → bC sc 4 [br 0 0, bi 1] ι (bk1 K H)) ∧
    (r0 = 0 → ∀ (ι : bm_S) (K : Int → bm_S → Prop) (H : Nat × Int → bm_S → Prop), mR ι β lim p → (r = 0 → ∀ ι' : bm_S, mR ι' β lim p' → Fr gR ι ι' → K v ι') → (r ≠ 0 → ∀ ι' : bm_S, mR ι' β lim p' → ι' 12 0 6 = r → Fr gR ι ι' → H (12, 0) ι') → bC sc 173 [br 13 0] ι (bk1 K H)) := by
  by_cases hr : r0 = 0
  · by_cases c : p < lim
    · refine ⟨p + 1, 0, β p, by omega, by omega, fun e => absurd hr e, fun _ => Or.inl ⟨rfl, rfl⟩, fun e => absurd rfl e, hw.1 p, ?_, ?_⟩
      · intro ι K H hR h
        rw [hr] at hR
        refine s_number hw (by omega) (by omega) hR ?_
        have F1 : Fr fR ι (up ι 0 0 1 (p + 1)) := (Fr.refl _ _).u (by omega)
        have := h _ hR.to F1
        show K (nm β p 1) _
        rw [nm_1]; exact this
      · intro _ ι K H hR h hh
        exact m_bit hw (by omega) hR (h rfl _ hR.to ((Fr.refl _ _).u (by omega)))
    · have hpl : p = lim := by omega
      refine ⟨lim, 1, 0, by omega, by omega, fun e => absurd hr e, fun _ => Or.inr rfl, fun _ => rfl, Or.inl rfl, ?_, ?_⟩
      · intro ι K H hR h
        rw [hr] at hR
        have F1 : Fr fR ι (up (up ι 0 0 1 lim) 0 0 3 1) := ((Fr.refl _ _).u (by omega)).u (by omega)
        exact s_number_end hw (by omega) hR (h _ (hR.fr F1 (fun j => by omega) (by simp (disch := omega) only [up_s, up_k, up_j, up_i]) (by simp (disch := omega) only [up_s, up_k, up_j, up_i])) F1)
      · intro _ ι K H hR h hh
        have F1 : Fr gR ι (up ι 12 0 6 1) := (Fr.refl _ _).u (by omega)
        rw [hpl] at hR
        exact m_bit_end hw hR (hh (by omega) _ (hR.fr F1 (fun j => by omega) (by simp (disch := omega) only [up_s, up_k, up_j, up_i]; exact hR.1)) (by simp (disch := omega) only [up_s, up_k, up_j, up_i]) F1)
  · exact ⟨p, r0, 0, by omega, hp1, fun _ => ⟨rfl, rfl⟩, fun e => absurd e hr, fun _ => rfl, Or.inl rfl, fun ι K H hR h => s_number_bad (by rw [hR.2.2.1]; exact hr) (h ι hR (Fr.refl _ _)), fun e => absurd e hr⟩
theorem nm_or {p : Int} (hβ : ∀ q, β q = 0 ∨ β q = 1) : ∀ n : Nat, nm β p n = 0 ↔ ∀ k : Nat, k < n → β (p + k) = 0
  | 0 => ⟨fun _ k h => by omega, fun _ => rfl⟩
  | n + 1 => by
    have ih := nm_or (p := p) hβ n
    have h1 := nm_rg (β := β) (p := p) hβ n
    have h2 := bm_p2pos (n : Int)
    have h3 : nm β p (n + 1) = nm β p n + β (p + n) * bm_p2 n := rfl
    constructor
    · intro h k hk
      have : nm β p n = 0 ∧ β (p + n) = 0 := by
        rcases hβ (p + n) with e | e <;> rw [e] at h3 ⊢ <;> omega
      by_cases c : k = n
      · rw [c]; exact this.2
      · exact ih.mp this.1 k (by omega)
    · intro h
      rw [h3, ih.mpr (fun k hk => h k (by omega)), h n (by omega)]
      omega
theorem or01 {a b : Int} (ha : a = 0 ∨ a = 1) (hb : b = 0 ∨ b = 1) : (bm_or a b = 0 ∨ bm_or a b = 1) ∧ (bm_or a b = 0 ↔ a = 0 ∧ b = 0) := by
  rcases ha with rfl | rfl <;> rcases hb with rfl | rfl <;> decide
theorem m_toByte2 (hw : wfβ β lim) {Q : bm_O → bm_S → Prop} : ∀ (m : Nat) (p x : Int) (ι : bm_S), (-p) % 8 = m → 0 ≤ p → p ≤ lim → (x = 0 ∨ x = 1) → mR ι β lim p → (∀ (ι' : bm_S) (y : Int), mR ι' β lim (p + m) → (y = 0 ↔ x = 0 ∧ ∀ k : Nat, k < m → β (p + k) = 0) → Fr gR ι ι' → (if y = (0 : Int) then Q (.inl none) ι' else bC sc 152 [br 13 0, bi 6] ι' (bk0 (fun ι1 => Q (.inl none) ι1) (bq Q)))) → bW sc 175 2 [br 13 0, bi x] [] ι Q
  | 0, p, x, ι, hm, h0, h1, hx, hR, h => by
    refine e_M_toByte_2 ?_
    rw [hR.1]
    exact ⟨by omega, bif_t (by omega) (h ι x (by rw [show p + ((0 : Nat) : Int) = p by omega]; exact hR) ⟨fun e => ⟨e, fun k hk => by omega⟩, fun e => e.1⟩ (Fr.refl _ _))⟩
  | m + 1, p, x, ι, hm, h0, h1, hx, hR, h => by
    have h8 := hw.2.2.2
    refine e_M_toByte_2 ?_
    rw [hR.1]
    refine ⟨by omega, bif_f (by omega) (m_bit hw (by omega) hR ?_)⟩
    have ho := or01 hx (hw.1 p)
    refine m_toByte2 hw m (p + 1) _ _ (by omega) (by omega) (by omega) ho.1 hR.to (fun ι' y a1 a2 F1 => h ι' y (by rw [show p + 1 + (m : Int) = p + ((m + 1 : Nat) : Int) by omega] at a1; exact a1) ?_ (((Fr.refl _ _).u (by omega)).trans F1))
    rw [a2, ho.2]
    constructor
    · rintro ⟨⟨e1, e2⟩, e3⟩
      refine ⟨e1, fun k hk => ?_⟩
      by_cases c : k = 0
      · rw [c, show p + ((0 : Nat) : Int) = p by omega]; exact e2
      · have := e3 (k - 1) (by omega)
        rw [show p + 1 + ((k - 1 : Nat) : Int) = p + k by omega] at this
        exact this
    · rintro ⟨e1, e2⟩
      refine ⟨⟨e1, ?_⟩, fun k hk => ?_⟩
      · have := e2 0 (by omega)
        rw [show p + ((0 : Nat) : Int) = p by omega] at this
        exact this
      · have := e2 (k + 1) (by omega)
        rw [show p + ((k + 1 : Nat) : Int) = p + 1 + k by omega] at this
        exact this
/-- up to a whole byte -/
theorem j_toByte (hw : wfβ β lim) (p : Int) (hp0 : 0 ≤ p) (hp1 : p ≤ lim) :
    ∃ (p' r : Int), p ≤ p' ∧ p' ≤ lim ∧ p' % 8 = 0 ∧ (r = 0 ∨ r = 6) ∧
    (∀ (ι : bm_S) (K : bm_S → Prop) (H : Nat × Int → bm_S → Prop), cR ι β lim p 0 → (∀ ι' : bm_S, cR ι' β lim p' r → Fr fR ι ι' → K ι') → bC sc 6 [br 0 0] ι (bk0 K H)) ∧
    (∀ (ι : bm_S) (K : bm_S → Prop) (H : Nat × Int → bm_S → Prop), mR ι β lim p → (r = 0 → ∀ ι' : bm_S, mR ι' β lim p' → Fr gR ι ι' → K ι') → (r ≠ 0 → ∀ ι' : bm_S, mR ι' β lim p' → ι' 12 0 6 = r → Fr gR ι ι' → H (12, 0) ι') → bC sc 175 [br 13 0] ι (bk0 K H)) := by
  have h8 := hw.2.2.2
  have hl := hw.2.2.1
  obtain ⟨n, hn⟩ : ∃ n : Nat, (n : Int) = (-p) % 8 := ⟨((-p) % 8).toNat, by omega⟩
  have ho := nm_or (β := β) (p := p) hw.1 n
  refine ⟨p + n, if nm β p n = 0 then 0 else 6, by omega, by omega, by omega, by split <;> omega, ?_, ?_⟩
  · intro ι K H hR h
    refine e_R_toWholeByte_0 ?_
    rw [hR.1, ← hn]
    refine ⟨by omega, s_number hw (by omega) (by omega) hR ?_⟩
    show if nm β p n = 0 then _ else _
    have F1 : Fr fR ι (up ι 0 0 1 (p + n)) := (Fr.refl _ _).u (by omega)
    refine bif_i (fun e => ?_) (fun e => ?_)
    · rw [if_pos e] at h; exact h _ hR.to F1
    · rw [if_neg e] at h
      have F2 : Fr fR ι (up (up ι 0 0 1 (p + n)) 0 0 3 6) := F1.u (by omega)
      exact s_broken (fun _ => h _ (hR.fr F2 (fun j => by omega) (by simp (disch := omega) only [up_s, up_k, up_j, up_i]) (by simp (disch := omega) only [up_s, up_k, up_j, up_i])) F2) (fun e1 => absurd (show up ι 0 0 1 (p + n) 0 0 3 = 0 by simp (disch := omega) only [up_s, up_k, up_j, up_i]; exact hR.2.2.1) e1)
  · intro ι K H hR h hh
    refine e_M_toByte_0 (m_toByte2 hw n p 0 ι hn.symm hp0 hp1 (Or.inl rfl) hR (fun ι1 y a1 a2 F1 => ?_))
    have a3 : y = 0 ↔ nm β p n = 0 := by rw [a2, ho]; exact ⟨fun e => e.2, fun e => ⟨rfl, e⟩⟩
    refine bif_i (fun e => ?_) (fun e => ?_)
    · exact h (by rw [if_pos (a3.mp e)]) ι1 a1 F1
    · have e1 : ¬ nm β p n = 0 := fun q => e (a3.mpr q)
      rw [if_neg e1] at hh
      have F2 : Fr gR ι1 (up ι1 12 0 6 6) := (Fr.refl _ _).u (by omega)
      exact m_fail (hh (by omega) _ (a1.fr F2 (fun j => by omega) (by simp (disch := omega) only [up_s, up_k, up_j, up_i]; exact a1.1)) (by simp (disch := omega) only [up_s, up_k, up_j, up_i]) (F1.trans F2))
theorem s_toByte_err {ι : bm_S} {K : bm_S → Prop} {H : Nat × Int → bm_S → Prop} (hp : bm_rg (-ι 0 0 1)) (hr : ι 0 0 3 ≠ 0) (h : K ι) : bC sc 6 [br 0 0] ι (bk0 K H) := e_R_toWholeByte_0 ⟨hp, s_number_bad hr (bif_t rfl h)⟩
/-- bytes that are passed -/
theorem s_skip {ι : bm_S} {K : bm_S → Prop} {H : Nat × Int → bm_S → Prop} {p n : Int} (hw : wfβ β lim) (hp : 0 ≤ p ∧ p ≤ lim) (hp8 : p % 8 = 0) (hn : 0 ≤ n) (hR : cR ι β lim p 0) (h0 : p + 8 * n ≤ lim → K (up ι 0 0 1 (p + 8 * n))) (h1 : lim < p + 8 * n → K (up (up ι 0 0 1 lim) 0 0 3 1)) : bC sc 7 [br 0 0, bi n] ι (bk0 K H) := by
  have hl := hw.2.2
  refine e_R_passOver_0 (bif_t hR.2.2.1 ?_)
  rw [hR.1, hR.2.1]
  exact ⟨by omega, by omega, bif_i (fun c => ⟨by omega, by omega, h0 (by omega)⟩) (fun c => h1 (by omega))⟩
theorem s_skip_err {ι : bm_S} {K : bm_S → Prop} {H : Nat × Int → bm_S → Prop} {n : Int} (hr : ι 0 0 3 ≠ 0) (h : K ι) : bC sc 7 [br 0 0, bi n] ι (bk0 K H) := e_R_passOver_0 (bif_f hr h)
/-- a new part -/
def clr (pc : Int) : Nat → Int → (Int → Int) → (Int → Int)
  | 0, _, PA => PA
  | m + 1, w, PA => clr pc m (w + 1) (nt PA pc w 0)
def np (PA : Int → Int) (pc k n : Int) : Int → Int := nt (nt (clr pc 12 0 PA) pc 0 k) pc 1 n
theorem clr_at {pc : Int} (h1 : 1 ≤ pc ∧ pc ≤ 60) : ∀ (m : Nat) (w : Int) (PA : Int → Int) (x : Int), w ≤ x → x < w + m ∨ PA (12 * (pc - 1) + x) = 0 → clr pc m w PA (12 * (pc - 1) + x) = 0
  | 0, w, PA, x, h, h2 => by
    rcases h2 with h2 | h2
    · omega
    · exact h2
  | m + 1, w, PA, x, h, h2 => by
    by_cases c : x = w
    · subst c
      have : ∀ (m : Nat) (w : Int) (PA : Int → Int), x < w → clr pc m w PA (12 * (pc - 1) + x) = PA (12 * (pc - 1) + x) := by
        intro m
        induction m with
        | zero => intro w PA _; rfl
        | succ m ih =>
          intro w PA hw
          show clr pc m (w + 1) (nt PA pc w 0) _ = _
          rw [ih (w + 1) _ (by omega), nt_far (by omega)]
      show clr pc m (x + 1) (nt PA pc x 0) _ = 0
      rw [this m (x + 1) _ (by omega)]
      unfold nt
      rw [if_pos h1, fs_s]
    · show clr pc m (w + 1) (nt PA pc w 0) _ = 0
      refine clr_at h1 m (w + 1) _ x (by omega) ?_
      rcases h2 with h2 | h2
      · exact Or.inl (by omega)
      · refine Or.inr ?_
        rw [nt_far c]; exact h2
theorem np_z {PA : Int → Int} {pc k n x : Int} (h1 : 1 ≤ pc ∧ pc ≤ 60) (hx : 2 ≤ x ∧ x < 12) : np PA pc k n (12 * (pc - 1) + x) = 0 := by
  unfold np
  rw [nt_far (by omega), nt_far (by omega)]
  exact clr_at h1 12 0 PA x (by omega) (Or.inl (by omega))
theorem np_1 {PA : Int → Int} {pc k n : Int} (h1 : 1 ≤ pc ∧ pc ≤ 60) : np PA pc k n (12 * (pc - 1) + 1) = n := by
  unfold np
  generalize nt (clr pc 12 0 PA) pc 0 k = X
  unfold nt
  rw [if_pos h1, fs_s]
theorem s_addPart23 {K : bm_S → Prop} {H : Nat × Int → bm_S → Prop} {pc k n : Int} (hpc : 0 ≤ pc) : ∀ (m : Nat) (w : Int) (PA : Int → Int) (ι : bm_S), w = 12 - m → 0 ≤ w → ι 8 0 3 = pc → PaC ι PA → (∀ ι' : bm_S, PaC ι' (nt (nt (clr pc m w PA) pc 0 k) pc 1 n) → Fr (fun t i j => t = 52) ι ι' → K ι') → bW sc 77 23 [br 8 0, bi k, bi n, bi w] [] ι (bk0 K H)
  | 0, w, PA, ι, hm, h0, hp, hP, h => by
    refine e_O_addPart_23 (bif_t (by omega) (s_note (pc := pc) (by omega) hp hpc (fun ι1 a1 F1 => ?_)))
    refine s_note (pc := pc) (by omega) (by rw [F1 8 0 3 (by omega)]; exact hp) hpc (fun ι2 a2 F2 => ?_)
    refine h ι2 (fun j x y => ?_) (F1.trans F2)
    rw [a2 j]
    refine nt_ext hpc (by omega) (fun j x y => ?_) j x y
    rw [a1 j]
    exact nt_ext hpc (by omega) hP j x y
  | m + 1, w, PA, ι, hm, h0, hp, hP, h => by
    refine e_O_addPart_23 (bif_f (by omega) (s_note (pc := pc) (by omega) hp hpc (fun ι1 a1 F1 => ⟨by omega, ?_⟩)))
    refine s_addPart23 hpc m (w + 1) (nt PA pc w 0) ι1 (by omega) (by omega) (by rw [F1 8 0 3 (by omega)]; exact hp) (fun j x y => ?_) (fun ι2 a2 F2 => h ι2 a2 (F1.trans F2))
    rw [a1 j]
    exact nt_ext hpc (by omega) hP j x y
theorem s_addPart {K : bm_S → Prop} {H : Nat × Int → bm_S → Prop} {ι : bm_S} {pc k n : Int} {PA : Int → Int} (hpc : 0 ≤ pc ∧ pc ≤ 100000) (hf : ι 0 0 3 = 0) (hp : ι 8 0 3 = pc) (hP : PaC ι PA) (h : ∀ ι' : bm_S, ι' 8 0 3 = pc + 1 → PaC ι' (np PA (pc + 1) k n) → Fr (fun t i j => t = 52 ∨ t = 8 ∧ j = 3) ι ι' → K ι') : bC sc 77 [br 8 0, bi k, bi n] ι (bk0 K H) := by
  refine e_O_addPart_0 (s_fine (fun _ => bif_f (by omega) ?_) (fun e => absurd hf e))
  rw [hp]
  have F0 : Fr (fun t i j => t = 52 ∨ t = 8 ∧ j = 3) ι (up ι 8 0 3 (pc + 1)) := (Fr.refl _ _).u (by omega)
  refine ⟨by omega, s_addPart23 (pc := pc + 1) (by omega) 12 0 PA _ (by omega) (by omega) (by simp (disch := omega) only [up_s, up_k, up_j, up_i]) (fun j x y => by simp (disch := omega) only [up_s, up_k, up_j, up_i]; exact hP j x y) (fun ι1 a1 F1 => h ι1 (by rw [F1 8 0 3 (by omega)]; simp (disch := omega) only [up_s, up_k, up_j, up_i]) a1 (F0.trans (F1.wide fun t i j q => Or.inl q)))⟩
theorem s_addPart_err {K : bm_S → Prop} {H : Nat × Int → bm_S → Prop} {ι : bm_S} {k n : Int} (hf : ι 0 0 3 ≠ 0) (h : K ι) : bC sc 77 [br 8 0, bi k, bi n] ι (bk0 K H) := e_O_addPart_0 (s_fine (fun e => absurd e hf) (fun _ => bif_t rfl h))
theorem m_newPart12 {K : bm_S → Prop} {H : Nat × Int → bm_S → Prop} {pc k n : Int} (hpc : 0 ≤ pc) : ∀ (m : Nat) (w : Int) (PA : Int → Int) (ι : bm_S), w = 12 - m → 0 ≤ w → ι 13 0 19 = pc → PaM ι PA → (∀ ι' : bm_S, PaM ι' (nt (nt (clr pc m w PA) pc 0 k) pc 1 n) → Fr (fun t i j => t = 76) ι ι' → K ι') → bW sc 187 12 [br 13 0, bi k, bi n, bi w] [] ι (bk0 K H)
  | 0, w, PA, ι, hm, h0, hp, hP, h => by
    refine e_M_newPart_12 (bif_t (by omega) (m_tell (pc := pc) (by omega) hp hpc (fun ι1 a1 F1 => ?_)))
    refine m_tell (pc := pc) (by omega) (by rw [F1 13 0 19 (by omega)]; exact hp) hpc (fun ι2 a2 F2 => ?_)
    refine h ι2 (fun j x y => ?_) (F1.trans F2)
    rw [a2 j]
    refine nt_ext hpc (by omega) (fun j x y => ?_) j x y
    rw [a1 j]
    exact nt_ext hpc (by omega) hP j x y
  | m + 1, w, PA, ι, hm, h0, hp, hP, h => by
    refine e_M_newPart_12 (bif_f (by omega) (m_tell (pc := pc) (by omega) hp hpc (fun ι1 a1 F1 => ⟨by omega, ?_⟩)))
    refine m_newPart12 hpc m (w + 1) (nt PA pc w 0) ι1 (by omega) (by omega) (by rw [F1 13 0 19 (by omega)]; exact hp) (fun j x y => ?_) (fun ι2 a2 F2 => h ι2 a2 (F1.trans F2))
    rw [a1 j]
    exact nt_ext hpc (by omega) hP j x y
theorem m_newPart {K : bm_S → Prop} {H : Nat × Int → bm_S → Prop} {ι : bm_S} {pc k n : Int} {PA : Int → Int} (hpc : 0 ≤ pc ∧ pc ≤ 100000) (hp : ι 13 0 19 = pc) (hP : PaM ι PA) (h : ∀ ι' : bm_S, ι' 13 0 19 = pc + 1 → PaM ι' (np PA (pc + 1) k n) → Fr (fun t i j => t = 76 ∨ t = 13 ∧ j = 19) ι ι' → K ι') : bC sc 187 [br 13 0, bi k, bi n] ι (bk0 K H) := by
  refine e_M_newPart_0 ?_
  rw [hp]
  have F0 : Fr (fun t i j => t = 76 ∨ t = 13 ∧ j = 19) ι (up ι 13 0 19 (pc + 1)) := (Fr.refl _ _).u (by omega)
  refine ⟨by omega, m_newPart12 (pc := pc + 1) (by omega) 12 0 PA _ (by omega) (by omega) (by simp (disch := omega) only [up_s, up_k, up_j, up_i]) (fun j x y => by simp (disch := omega) only [up_s, up_k, up_j, up_i]; exact hP j x y) (fun ι1 a1 F1 => h ι1 (by rw [F1 13 0 19 (by omega)]; simp (disch := omega) only [up_s, up_k, up_j, up_i]) a1 (F0.trans (F1.wide fun t i j q => Or.inl q)))⟩
/-- the size of a part -/
theorem j_size (hw : wfβ β lim) {s : Int} (hs : 0 ≤ s ∧ s ≤ 3000) (x : Int) (hx : 0 ≤ x ∧ x < 3) (p r0 : Int) (hp0 : 0 ≤ p) (hp1 : p ≤ lim) (hr0 : r0 = 0 ∨ 0 < r0 ∧ r0 < 18) :
    ∃ (p' r n : Int), p ≤ p' ∧ p' ≤ lim ∧ (r0 ≠ 0 → r = r0 ∧ p' = p) ∧ (r = 0 ∨ 0 < r ∧ r < 18) ∧ (1 ≤ n ∧ n ≤ 16777216) ∧ (r = 0 → s + n ≤ 3000) ∧
    (∀ (ι : bm_S) (K : Int → bm_S → Prop) (H : Nat × Int → bm_S → Prop), cR ι β lim p r0 → ι 2 1 1 = s → (∀ ι' : bm_S, cR ι' β lim p' r → Fr fR ι ι' → K n ι') → bC sc 75 [br 8 0, bi x] ι (bk1 K H)) ∧
    (r0 = 0 → ∀ (ι : bm_S) (fl : Int) (N : bm_S → Prop) (K : bm_S → Prop) (H : Nat × Int → bm_S → Prop), mR ι β lim p → ι 13 0 6 = s → (r = 0 → ∀ ι' : bm_S, mR ι' β lim p' → Fr gR ι ι' → bC sc 223 [br 13 0, bi fl, bi n] ι' (bk0 K H)) → (r ≠ 0 → ∀ ι' : bm_S, mR ι' β lim p' → ι' 12 0 6 = r → Fr gR ι ι' → H (12, 0) ι') → bC sc 221 [br 13 0, bi (4 + x)] ι (bk1 (fun n1 ι1 => bC sc 223 [br 13 0, bi fl, bi n1] ι1 (bk0 K H)) H)) := by
  have hp24 := p2_le (k := 16 + 4 * x) 24 (by omega) 16777216 rfl
  obtain ⟨p1, r1, v, i1, i2, i3, i4, i5, i6, i7, i8⟩ := jx_number (sc := sc) hw (16 + 4 * x) (by omega) p r0 hp0 hp1
  have hr1 : r1 = 0 ∨ 0 < r1 ∧ r1 < 18 := by
    by_cases e : r0 = 0
    · have := i4 e; omega
    · have := i3 e; omega
  have hq : 0 ≤ v / bm_p2 (12 + 4 * x) := by
    have := bm_p2pos (12 + 4 * x)
    exact Int.ediv_nonneg i5 (by omega)
  -- the rule, once the number is read
  obtain ⟨r, er⟩ : ∃ r, r = (if r1 ≠ 0 then r1 else if 0 < x ∧ v / bm_p2 (12 + 4 * x) = 0 then 5 else if v < 3000 - s then 0 else 17) := ⟨_, rfl⟩
  have hr : r = 0 ∨ 0 < r ∧ r < 18 := by grind
  refine ⟨p1, r, v + 1, i1, i2, fun e => ?_, hr, by omega, fun e => ?_, ?_, ?_⟩
  · have := i3 e
    rw [if_pos (by omega)] at er
    exact ⟨by omega, this.2⟩
  · by_cases c : v < 3000 - s
    · omega
    · grind
  · intro ι K H hR hs1 h
    refine e_O_readSize_0 ⟨by omega, by omega, i7 ι _ _ hR (fun ι1 x1 F1 => ?_)⟩
    have b : ∀ (y : Int) (N : bm_S → Prop), (r1 = 0 → r = y) → (∀ ι2 : bm_S, cR ι2 β lim p1 r → Fr fR ι ι2 → N ι2) → bC sc 3 [br 0 0, bi y] ι1 (bk0 N H) := fun y N e hN => by
      refine s_broken (fun e1 => ?_) (fun e1 => ?_)
      · have F2 : Fr fR ι1 (up ι1 0 0 3 y) := (Fr.refl _ _).u (by omega)
        have e2 := e (x1.2.2.1.symm.trans e1)
        exact hN _ (x1.fr F2 (fun j => by omega) (by simp (disch := omega) only [up_s, up_k, up_j, up_i]; exact x1.1) (by simp (disch := omega) only [up_s, up_k, up_j, up_i]; exact e2.symm)) (F1.trans F2)
      · have e2 : r1 ≠ 0 := fun q => e1 (x1.2.2.1.trans q)
        rw [if_pos e2] at er
        exact hN ι1 (by rw [er]; exact x1) F1
    have z : ι1 2 1 1 = s := by rw [F1 2 1 1 (by omega)]; exact hs1
    have fin : ∀ ι2 : bm_S, cR ι2 β lim p1 r → Fr fR ι ι2 → K (v + 1) ι2 := h
    have c17 : ∀ ι2 : bm_S, cR ι2 β lim p1 r1 → Fr fR ι ι2 → (r1 = 0 → ¬ (0 < x ∧ v / bm_p2 (12 + 4 * x) = 0)) → (bm_rg (3000 - ι2 2 1 1)) ∧ (if v < 3000 - ι2 2 1 1 then (bm_rg (v + 1)) ∧ K (v + 1) ι2 else bC sc 3 [br 0 0, bi 17] ι2 (bk0 (fun ι3 => (bm_rg (v + 1)) ∧ K (v + 1) ι3) H)) := fun ι2 x2 F2 hc => by
      rw [F2 2 1 1 (by omega), hs1]
      refine ⟨by omega, bif_i (fun c => ⟨by omega, fin ι2 ?_ F2⟩) (fun c => s_broken (fun e1 => ⟨by omega, ?_⟩) (fun e1 => ⟨by omega, fin ι2 ?_ F2⟩))⟩
      · by_cases e : r1 = 0
        · rw [er, if_neg (by omega), if_neg (hc e), if_pos c, ← e]; exact x2
        · rw [er, if_pos e]; exact x2
      · have e := x2.2.2.1.symm.trans e1
        have F3 : Fr fR ι2 (up ι2 0 0 3 17) := (Fr.refl _ _).u (by omega)
        exact fin _ (x2.fr F3 (fun j => by omega) (by simp (disch := omega) only [up_s, up_k, up_j, up_i]; exact x2.1) (by simp (disch := omega) only [up_s, up_k, up_j, up_i]; rw [er, if_neg (by omega), if_neg (hc e), if_neg c])) (F2.trans F3)
      · have e : r1 ≠ 0 := fun q => e1 (x2.2.2.1.trans q)
        rw [er, if_pos e]; exact x2
    refine bif_i (fun c => ?_) (fun c => ⟨by omega, by omega, by omega, bif_i (fun c1 => ?_) (fun c1 => ?_)⟩)
    · exact c17 ι1 x1 F1 (fun _ q => by omega)
    · refine b 5 _ (fun e => by rw [er, if_neg (by omega), if_pos ⟨by omega, c1⟩]) (fun ι2 x2 F2 => ?_)
      have hne : ι2 0 0 3 ≠ 0 := by
        rw [x2.2.2.1, er]
        by_cases e : r1 = 0
        · rw [if_neg (by omega), if_pos ⟨by omega, c1⟩]; omega
        · rw [if_pos e]; exact e
      rw [F2 2 1 1 (by omega), hs1]
      exact ⟨by omega, bif_i (fun c => ⟨by omega, fin ι2 x2 F2⟩) (fun c => s_broken (fun e1 => absurd e1 hne) (fun _ => ⟨by omega, fin ι2 x2 F2⟩))⟩
    · exact c17 ι1 x1 F1 (fun _ q => c1 q.2)
  · intro e0 ι fl N K H hR hs1 h hh
    have e4 : 4 * (4 + x) = 16 + 4 * x := by omega
    refine e_M_readLength_0 ?_
    rw [e4]
    refine ⟨by omega, i8 e0 ι _ _ hR (fun e ι1 x1 F1 => ?_) (fun e ι1 x1 y1 F1 => hh (by rw [er, if_pos e]; exact e) ι1 x1 (by rw [er, if_pos e]; exact y1) F1)⟩
    have bad : ∀ (y : Int) (M : bm_S → Prop), r = y → y ≠ 0 → bC sc 152 [br 13 0, bi y] ι1 (bk0 M H) := fun y M e hy => by
      have F2 : Fr gR ι1 (up ι1 12 0 6 y) := (Fr.refl _ _).u (by omega)
      exact m_fail (hh (by omega) _ (x1.fr F2 (fun j => by omega) (by simp (disch := omega) only [up_s, up_k, up_j, up_i]; exact x1.1)) (by simp (disch := omega) only [up_s, up_k, up_j, up_i]; exact e.symm) (F1.trans F2))
    have go : ¬ (0 < x ∧ v / bm_p2 (12 + 4 * x) = 0) → bC sc 223 [br 13 0, bi fl, bi (v + 1)] ι1 (bk0 K H) := fun hc => by
      by_cases c : v < 3000 - s
      · exact h (by rw [er, if_neg (by omega), if_neg hc, if_pos c]) ι1 x1 F1
      · refine e_M_readPart_0 ?_
        rw [F1 13 0 6 (by omega), hs1]
        exact ⟨by omega, bif_f (by omega) (bad 17 _ (by rw [er, if_neg (by omega), if_neg hc, if_neg c]) (by omega))⟩
    refine bif_i (fun c => ⟨by omega, go (fun q => by omega)⟩) (fun c => ⟨by omega, by omega, by omega, ?_⟩)
    rw [show 4 * (4 + x - 1) = 12 + 4 * x by omega]
    exact bif_i (fun c1 => bad 5 _ (by rw [er, if_neg (by omega), if_pos ⟨by omega, c1⟩]) (by omega)) (fun c1 => ⟨by omega, go (fun q => c1 q.2)⟩)
end Parts
