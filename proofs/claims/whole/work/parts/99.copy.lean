/-! the commands: copies and words -/
section Copy
variable {sc : bm_Sc} {β : Int → Int} {lim : Int} {W : bm_S} {s : Int} {f : Int → Int} {ks : Int → Int → Int} {rg PA : Int → Int}
def CC (ι : bm_S) (pc wn en : Int) (g c : Int → Int) : Prop := ι 8 0 3 = pc ∧ ι 8 0 13 = wn ∧ ι 8 0 14 = en ∧ (∀ k, 0 ≤ k → k < 2240 → ι 64 0 k = g k) ∧ ∀ n, 4 ≤ n → n ≤ 10 → ι 65 0 n = c n
def CM (ι : bm_S) (pc wn : Int) (g c : Int → Int) : Prop := ι 13 0 19 = pc ∧ ι 13 0 42 = wn ∧ (∀ k, 0 ≤ k → k < 2240 → ι 68 0 k = g k) ∧ ∀ n, 4 ≤ n → n ≤ 10 → ι 69 0 n = c n
def CO (pc wn : Int) (g c : Int → Int) : Prop := 0 ≤ pc ∧ (1 ≤ wn ∧ wn ≤ 100000000) ∧ (∀ k, 0 ≤ k → k < 2240 → -128 ≤ g k ∧ g k < 128) ∧ ∀ n, 4 ≤ n → n ≤ 10 → 0 ≤ c n ∧ c n ≤ 32
theorem CC.fr {ι ι' : bm_S} {pc wn en : Int} {g c : Int → Int} (h : CC ι pc wn en g c) (hF : Fr fLp ι ι') : CC ι' pc wn en g c := ⟨by rw [hF 8 0 3 (by omega)]; exact h.1, by rw [hF 8 0 13 (by omega)]; exact h.2.1, by rw [hF 8 0 14 (by omega)]; exact h.2.2.1, fun k x y => by rw [hF 64 0 k (by omega)]; exact h.2.2.2.1 k x y, fun k x y => by rw [hF 65 0 k (by omega)]; exact h.2.2.2.2 k x y⟩
theorem CM.fr {ι ι' : bm_S} {pc wn : Int} {g c : Int → Int} (h : CM ι pc wn g c) (hF : Fr gLp ι ι') : CM ι' pc wn g c := ⟨by rw [hF 13 0 19 (by omega)]; exact h.1, by rw [hF 13 0 42 (by omega)]; exact h.2.1, fun k x y => by rw [hF 68 0 k (by omega)]; exact h.2.2.1 k x y, fun k x y => by rw [hF 69 0 k (by omega)]; exact h.2.2.2 k x y⟩
theorem LC.ext {ι : bm_S} {f' : Int → Int} (h : LC ι W s f ks rg PA) (e : ∀ k, 0 ≤ k → k < s → f k = f' k) : LC ι W s f' ks rg PA := ⟨h.1, fun k x y => (h.2.1 k x y).trans (e k x y), h.2.2⟩
theorem LM.ext {ι : bm_S} {f' : Int → Int} (h : LM ι W s f ks rg PA) (e : ∀ k, 0 ≤ k → k < s → f k = f' k) : LM ι W s f' ks rg PA := ⟨h.1, fun k x y => (h.2.1 k x y).trans (e k x y), h.2.2⟩
/-- one more -/
def ntp (PA : Int → Int) (pc w : Int) : Int → Int := nt PA pc w (PA (12 * (pc - 1) + w) + 1)
def PB (PA : Int → Int) (pc b : Int) : Prop := 1 ≤ pc → pc ≤ 60 → ∀ w, 9 ≤ w → w ≤ 11 → 0 ≤ PA (12 * (pc - 1) + w) ∧ PA (12 * (pc - 1) + w) ≤ b
theorem PB.more {pc w b : Int} (h : PB PA pc b) : PB (ntp PA pc w) pc (b + 1) := fun x y z z1 z2 => by
  have h1 := h x y z z1 z2
  unfold ntp nt
  rw [if_pos ⟨x, y⟩]
  by_cases c : z = w
  · subst c; rw [fs_s]; omega
  · rw [fs_n (by omega)]; omega
theorem PB.mono {pc b b' : Int} (h : PB PA pc b) (hb : b ≤ b') : PB PA pc b' := fun x y z z1 z2 => by have := h x y z z1 z2; omega
theorem s_more {ι : bm_S} {K : bm_S → Prop} {H : Nat × Int → bm_S → Prop} {w pc b p r : Int} (hw : 9 ≤ w ∧ w ≤ 11) (hp : ι 8 0 3 = pc) (hp0 : 0 ≤ pc) (hB : PB PA pc b) (hb : b ≤ 10000) (hR : cR ι β lim p r) (hL : LC ι W s f ks rg PA) (h : ∀ ι' : bm_S, cR ι' β lim p r → LC ι' W s f ks rg (ntp PA pc w) → Fr fLp ι ι' → K ι') : bC sc 79 [br 8 0, bi w] ι (bk0 K H) := by
  obtain ⟨a1, a2, a3, a4, a5⟩ := hL
  refine e_O_noteOneMore_0 ?_
  rw [hp]
  by_cases c : 1 ≤ pc ∧ pc ≤ 60
  · have hb1 := hB c.1 c.2 w hw.1 hw.2
    rw [show (pc - 1) * 12 + w = 12 * (pc - 1) + w by omega, a5 _ (by omega) (by omega)]
    have hF : Fr (fun t i j => t = 52) ι (up ι 52 0 (12 * (pc - 1) + w) (PA (12 * (pc - 1) + w) + 1)) := (Fr.refl _ _).u rfl
    refine bif_f (by omega) (bif_f (by omega) ⟨by omega, by omega, by omega, by omega, by omega, by omega, h _ (hR.fr hF (fun j => by omega) (by rw [hF 0 0 1 (by omega)]; exact hR.1) (by rw [hF 0 0 3 (by omega)]; exact hR.2.2.1)) ⟨by rw [hF 2 1 1 (by omega)]; exact a1, fun k x y => by rw [hF 20 1 k (by omega)]; exact a2 k x y, fun q x y => ?_, fun i x y => by rw [hF 51 0 i (by omega)]; exact a4 i x y, fun j x y => ?_⟩ (hF.wide fun t i j q => by omega)⟩)
    · obtain ⟨b1, b2, b3, b4⟩ := a3 q x y
      exact ⟨by rw [hF 1 q 2 (by omega)]; exact b1, by rw [hF 1 q 3 (by omega)]; exact b2, by rw [hF 1 q 4 (by omega)]; exact b3, by rw [hF 1 q 5 (by omega)]; exact b4⟩
    · unfold ntp nt fs
      rw [up_at, if_pos c]
      by_cases c1 : j = 12 * (pc - 1) + w
      · rw [if_pos c1, if_pos c1]
      · rw [if_neg c1, if_neg c1]; exact a5 j x y
  · have e : ntp PA pc w = PA := by unfold ntp nt; rw [if_neg c]
    have h := h ι hR (by rw [e]; exact ⟨a1, a2, a3, a4, a5⟩) (Fr.refl _ _)
    exact bif_i (fun _ => h) (fun c1 => bif_t (by omega) h)
theorem m_more {ι : bm_S} {K : bm_S → Prop} {H : Nat × Int → bm_S → Prop} {w pc b p : Int} (hw : 9 ≤ w ∧ w ≤ 11) (hp : ι 13 0 19 = pc) (hB : PB PA pc b) (hb : b ≤ 10000) (hR : mR ι β lim p) (hL : LM ι W s f ks rg PA) (h : ∀ ι' : bm_S, mR ι' β lim p → LM ι' W s f ks rg (ntp PA pc w) → Fr gLp ι ι' → K ι') : bC sc 186 [br 13 0, bi w] ι (bk0 K H) := by
  obtain ⟨a1, a2, a3, a4, a5⟩ := hL
  refine e_M_tellMore_0 ?_
  rw [hp]
  by_cases c : 1 ≤ pc ∧ pc ≤ 60
  · have hb1 := hB c.1 c.2 w hw.1 hw.2
    rw [a5 _ (by omega) (by omega)]
    have hF : Fr (fun t i j => t = 76) ι (up ι 76 0 (12 * (pc - 1) + w) (PA (12 * (pc - 1) + w) + 1)) := (Fr.refl _ _).u rfl
    refine bif_f (by rw [if_pos c]; omega) ⟨by omega, by omega, by omega, by omega, by omega, by omega, h _ (hR.fr hF (fun j => by omega) (by rw [hF 13 0 16 (by omega)]; exact hR.1)) ⟨by rw [hF 13 0 6 (by omega)]; exact a1, fun k x y => by rw [hF 67 0 k (by omega)]; exact a2 k x y, fun q x y => ?_, fun i x y => by rw [hF 77 0 (3 - i) (by omega)]; exact a4 i x y, fun j x y => ?_⟩ (hF.wide fun t i j q => by omega)⟩
    · obtain ⟨b1, b2, b3, b4⟩ := a3 q x y
      exact ⟨by rw [hF 78 0 q (by omega)]; exact b1, by rw [hF 79 0 q (by omega)]; exact b2, by rw [hF 80 0 q (by omega)]; exact b3, by rw [hF 81 0 q (by omega)]; exact b4⟩
    · unfold ntp nt fs
      rw [up_at, if_pos c]
      by_cases c1 : j = 12 * (pc - 1) + w
      · rw [if_pos c1, if_pos c1]
      · rw [if_neg c1, if_neg c1]; exact a5 j x y
  · have e : ntp PA pc w = PA := by unfold ntp nt; rw [if_neg c]
    exact bif_t (by rw [if_neg c]) (h ι hR (by rw [e]; exact ⟨a1, a2, a3, a4, a5⟩) (Fr.refl _ _))
/-- a distance comes into the ring -/
def rp (rg : Int → Int) (d : Int) : Int → Int := fun i => if i = 0 then d else rg (i - 1)
theorem s_ring {ι : bm_S} {K : bm_S → Prop} {H : Nat × Int → bm_S → Prop} {d p r : Int} (hR : cR ι β lim p r) (hL : LC ι W s f ks rg PA) (h : ∀ ι' : bm_S, cR ι' β lim p r → LC ι' W s f ks (rp rg d) PA → Fr fLp ι ι' → K ι') : bC sc 143 [br 51 0, bi d] ι (bk0 K H) := by
  obtain ⟨a1, a2, a3, a4, a5⟩ := hL
  refine e_X_comeToRing_51_0 ?_
  rw [a4 0 (by omega) (by omega), a4 1 (by omega) (by omega), a4 2 (by omega) (by omega)]
  have hF : Fr (fun t i j => t = 51) ι (up (up (up (up ι 51 0 3 (rg 2)) 51 0 2 (rg 1)) 51 0 1 (rg 0)) 51 0 0 d) := ((((Fr.refl _ _).u rfl).u rfl).u rfl).u rfl
  refine ⟨by omega, by omega, by omega, by omega, by omega, by omega, by omega, h _ (hR.fr hF (fun j => by omega) (by rw [hF 0 0 1 (by omega)]; exact hR.1) (by rw [hF 0 0 3 (by omega)]; exact hR.2.2.1)) ⟨by rw [hF 2 1 1 (by omega)]; exact a1, fun k x y => by rw [hF 20 1 k (by omega)]; exact a2 k x y, fun q x y => ?_, fun i x y => ?_, a5.fr hF (fun j => by omega)⟩ (hF.wide fun t i j q => by omega)⟩
  · obtain ⟨b1, b2, b3, b4⟩ := a3 q x y
    exact ⟨by rw [hF 1 q 2 (by omega)]; exact b1, by rw [hF 1 q 3 (by omega)]; exact b2, by rw [hF 1 q 4 (by omega)]; exact b3, by rw [hF 1 q 5 (by omega)]; exact b4⟩
  · have : i = 0 ∨ i = 1 ∨ i = 2 ∨ i = 3 := by omega
    rcases this with rfl | rfl | rfl | rfl
    · simp (disch := omega) only [up_s, up_k, up_j, up_i]; rfl
    · simp (disch := omega) only [up_s, up_k, up_j, up_i]; rfl
    · simp (disch := omega) only [up_s, up_k, up_j, up_i]; rfl
    · simp (disch := omega) only [up_s, up_k, up_j, up_i]; rfl
theorem m_ring {ι : bm_S} {K : bm_S → Prop} {H : Nat × Int → bm_S → Prop} {d p : Int} (hR : mR ι β lim p) (hL : LM ι W s f ks rg PA) (h : ∀ ι' : bm_S, mR ι' β lim p → LM ι' W s f ks (rp rg d) PA → Fr gLp ι ι' → K ι') : bC sc 189 [br 13 0, bi d] ι (bk0 K H) := by
  obtain ⟨a1, a2, a3, a4, a5⟩ := hL
  refine e_M_toRing_0 (e_M_toRing_2 (bif_f (by omega) ⟨by omega, by omega, by omega, by omega, e_M_toRing_2 (bif_f (by omega) ⟨by omega, by omega, by omega, by omega, e_M_toRing_2 (bif_f (by omega) ⟨by omega, by omega, by omega, by omega, e_M_toRing_2 (bif_t (by omega) ⟨by omega, ?_⟩)⟩)⟩)⟩))
  have hF : Fr (fun t i j => t = 77) ι (up (up (up (up ι 77 0 0 (ι 77 0 (0 + 1))) 77 0 (0 + 1) ((up ι 77 0 0 (ι 77 0 (0 + 1))) 77 0 (0 + 1 + 1))) 77 0 (0 + 1 + 1) ((up (up ι 77 0 0 (ι 77 0 (0 + 1))) 77 0 (0 + 1) ((up ι 77 0 0 (ι 77 0 (0 + 1))) 77 0 (0 + 1 + 1))) 77 0 (0 + 1 + 1 + 1))) 77 0 3 d) := ((((Fr.refl _ _).u rfl).u rfl).u rfl).u rfl
  refine h _ (hR.fr hF (fun j => by omega) (by rw [hF 13 0 16 (by omega)]; exact hR.1)) ⟨by rw [hF 13 0 6 (by omega)]; exact a1, fun k x y => by rw [hF 67 0 k (by omega)]; exact a2 k x y, fun q x y => ?_, fun i x y => ?_, a5.fr hF (fun j => by omega)⟩ (hF.wide fun t i j q => by omega)
  · obtain ⟨b1, b2, b3, b4⟩ := a3 q x y
    exact ⟨by rw [hF 78 0 q (by omega)]; exact b1, by rw [hF 79 0 q (by omega)]; exact b2, by rw [hF 80 0 q (by omega)]; exact b3, by rw [hF 81 0 q (by omega)]; exact b4⟩
  · have q0 := a4 0 (by omega) (by omega)
    have q1 := a4 1 (by omega) (by omega)
    have q2 := a4 2 (by omega) (by omega)
    rw [show (3 - 0 : Int) = 3 by omega] at q0
    rw [show (3 - 1 : Int) = 2 by omega] at q1
    rw [show (3 - 2 : Int) = 1 by omega] at q2
    have : i = 0 ∨ i = 1 ∨ i = 2 ∨ i = 3 := by omega
    rcases this with rfl | rfl | rfl | rfl
    · rw [show (3 - 0 : Int) = 3 by omega]; simp (disch := omega) only [up_s, up_k, up_j, up_i]; rfl
    · rw [show (3 - 1 : Int) = 2 by omega]; simp (disch := omega) only [up_s, up_k, up_j, up_i]; exact q0
    · rw [show (3 - 2 : Int) = 1 by omega]; simp (disch := omega) only [up_s, up_k, up_j, up_i]; exact q1
    · rw [show (3 - 3 : Int) = 0 by omega]; simp (disch := omega) only [up_s, up_k, up_j, up_i]; exact q2
/-- bytes from before -/
def cpy (d : Int) : Nat → Int → (Int → Int) → (Int → Int)
  | 0, _, f => f
  | m + 1, s, f => cpy d m (s + 1) (fs f s (bm_byte (f (s - d))))
theorem cpy_rg {d : Int} : ∀ (m : Nat) (s : Int) (f : Int → Int), (∀ k, 0 ≤ k → k < s → -128 ≤ f k ∧ f k < 128) → ∀ k, 0 ≤ k → k < s + m → -128 ≤ cpy d m s f k ∧ cpy d m s f k < 128
  | 0, s, f, h, k, x, y => h k x (by omega)
  | m + 1, s, f, h, k, x, y => cpy_rg m (s + 1) _ (fun k x y => by
      unfold fs
      by_cases c : k = s
      · rw [if_pos c]; exact by_rg _
      · rw [if_neg c]; exact h k x (by omega)) k x (by omega)
theorem s_copy39 {Q : bm_O → bm_S → Prop} {x d sg p r : Int} (hd : 1 ≤ d) (hx : x ≤ 5000) : ∀ (m : Nat) (i s : Int) (f : Int → Int) (ι : bm_S), i = x - m → 0 ≤ i → d ≤ s → s + m ≤ 4096 → cR ι β lim p r → LC ι W s f ks rg PA → (∀ ι' : bm_S, cR ι' β lim p r → LC ι' W (s + m) (cpy d m s f) ks rg PA → Fr fLp ι ι' → bW sc 91 39 [br 8 0, bi x, bi d, bi sg, bi x] [] ι' Q) → bW sc 91 39 [br 8 0, bi x, bi d, bi sg, bi i] [] ι Q
  | 0, i, s, f, ι, e, h0, hds, hs, hR, hL, h => by
    have := h ι hR (by rw [show s + (0 : Nat) = s by omega]; exact hL) (Fr.refl _ _)
    rw [show i = x by omega]; exact this
  | m + 1, i, s, f, ι, e, h0, hds, hs, hR, hL, h => by
    refine e_O_makeCopy_39 (bif_f (by omega) ?_)
    rw [hL.1]
    refine ⟨by omega, s_back (f := f) hd (by omega) hL.1 hL.2.1 (s_put (by omega) hR hL (fun ι1 x1 x2 F1 => ⟨by omega, ?_⟩))⟩
    have e1 : bm_byte (bk f s d) = bm_byte (f (s - d)) := by unfold bk; rw [if_neg (by omega), by_m]
    rw [e1] at x2
    exact s_copy39 hd hx m (i + 1) (s + 1) _ ι1 (by omega) (by omega) (by omega) (by omega) x1 x2 (fun ι2 y1 y2 F2 => h ι2 y1 (by rw [show s + 1 + (m : Int) = s + (m + 1 : Nat) by omega] at y2; exact y2) (F1.trans F2))
theorem m_copy143 {Q : bm_O → bm_S → Prop} {x d sg p : Int} {v1 v3 v6 : bm_V} (hd : 1 ≤ d) (hx : x ≤ 5000) : ∀ (m : Nat) (i s : Int) (f : Int → Int) (ι : bm_S), i = x - m → 0 ≤ i → d ≤ s → s + m ≤ 4096 → mR ι β lim p → LM ι W s f ks rg PA → (∀ ι' : bm_S, mR ι' β lim p → LM ι' W (s + m) (cpy d m s f) ks rg PA → Fr gLp ι ι' → bW sc 217 143 [br 13 0, v1, bi x, v3, bi sg, bi d, v6, bi x] [] ι' Q) → bW sc 217 143 [br 13 0, v1, bi x, v3, bi sg, bi d, v6, bi i] [] ι Q
  | 0, i, s, f, ι, e, h0, hds, hs, hR, hL, h => by
    have := h ι hR (by rw [show s + (0 : Nat) = s by omega]; exact hL) (Fr.refl _ _)
    rw [show i = x by omega]; exact this
  | m + 1, i, s, f, ι, e, h0, hds, hs, hR, hL, h => by
    refine e_M_goBack_143 (bif_f (by omega) ?_)
    rw [hL.1, hL.2.1 (s - d) (by omega) (by omega)]
    refine ⟨by omega, by omega, m_put (by omega) hR hL (fun ι1 x1 x2 F1 => ⟨by omega, ?_⟩)⟩
    exact m_copy143 hd hx m (i + 1) (s + 1) _ ι1 (by omega) (by omega) (by omega) (by omega) x1 x2 (fun ι2 y1 y2 F2 => h ι2 y1 (by rw [show s + 1 + (m : Int) = s + (m + 1 : Nat) by omega] at y2; exact y2) (F1.trans F2))
theorem s_copy {ι : bm_S} {K : bm_S → Prop} {H : Nat × Int → bm_S → Prop} {x d sg p pc wn en : Int} {g c : Int → Int} (hd : 1 ≤ d ∧ d ≤ s) (hx : 0 ≤ x ∧ x ≤ en - s) (hen : en ≤ 4096) (hpc : 0 ≤ pc) (hB : PB PA pc (s + 1)) (hC : CC ι pc wn en g c) (hR : cR ι β lim p 0) (hL : LC ι W s f ks rg PA) (h : ∀ ι' : bm_S, cR ι' β lim p 0 → LC ι' W (s + x) (cpy d x.toNat s f) ks (if sg = 0 then rg else rp rg d) (ntp PA pc 10) → Fr fLp ι ι' → K ι') : bC sc 91 [br 8 0, bi x, bi d, bi sg] ι (bk0 K H) := by
  refine e_O_makeCopy_0 ?_
  rw [hC.2.2.1, hL.1]
  refine ⟨by omega, bif_t (by omega) (s_fine (fun _ => bif_f (by omega) ?_) (fun e => absurd hR.2.2.1 e))⟩
  refine s_copy39 hd.1 (by omega) x.toNat 0 s f ι (by omega) (by omega) (by omega) (by omega) hR hL (fun ι1 x1 x2 F1 => e_O_makeCopy_39 (bif_t (by omega) (bif_i (fun e => ?_) (fun e => ?_))))
  · rw [show s + (x.toNat : Int) = s + x by omega] at x2
    refine s_more (by omega) (hC.fr F1).1 hpc hB (by omega) x1 x2 (fun ι2 y1 y2 F2 => h ι2 y1 (by rw [if_pos e]; exact y2) (F1.trans F2))
  · rw [show s + (x.toNat : Int) = s + x by omega] at x2
    refine s_ring x1 x2 (fun ι2 y1 y2 F2 => ?_)
    refine s_more (by omega) ((hC.fr F1).fr F2).1 hpc hB (by omega) y1 y2 (fun ι3 z1 z2 F3 => h ι3 z1 (by rw [if_neg e]; exact z2) ((F1.trans F2).trans F3))
theorem s_copy8 {ι : bm_S} {K : bm_S → Prop} {H : Nat × Int → bm_S → Prop} {x d sg en : Int} (hx : x ≤ 20000000 ∧ 0 ≤ x) (he : ι 8 0 14 = en) (hen : 0 ≤ en ∧ en ≤ 4096) (hs : 0 ≤ s ∧ s ≤ 4096) (hs1 : ι 2 1 1 = s) (h : en - s < x → ι 0 0 3 = 0 → K (up ι 0 0 3 8)) (h1 : ι 0 0 3 ≠ 0 → K ι) (h2 : x ≤ en - s → ι 0 0 3 ≠ 0) : bC sc 91 [br 8 0, bi x, bi d, bi sg] ι (bk0 K H) := by
  refine e_O_makeCopy_0 ?_
  rw [he, hs1]
  refine ⟨by omega, bif_i (fun c => s_fine (fun e => absurd e (h2 c)) (fun e => bif_t rfl (h1 e))) (fun c => s_broken (fun e => s_fine (fun e1 => ?_) (fun _ => bif_t rfl (h (by omega) e))) (fun e => s_fine (fun e1 => absurd e1 e) (fun _ => bif_t rfl (h1 e))))⟩
  rw [up_s] at e1
  omega
theorem m_copy {ι : bm_S} {Q : bm_O → bm_S → Prop} {x d sg p pc wn en : Int} {g c : Int → Int} {v1 v3 v6 : bm_V} (hd : 1 ≤ d ∧ d ≤ s) (hx : 0 ≤ x ∧ x ≤ en - s) (hen : en ≤ 4096) (hB : PB PA pc (s + 1)) (hC : CM ι pc wn g c) (hR : mR ι β lim p) (hL : LM ι W s f ks rg PA) (h : ∀ ι' : bm_S, mR ι' β lim p → LM ι' W (s + x) (cpy d x.toNat s f) ks (if sg = 0 then rg else rp rg d) (ntp PA pc 10) → Fr gLp ι ι' → Q (.inl none) ι') : bW sc 217 143 [br 13 0, v1, bi x, v3, bi sg, bi d, v6, bi 0] [] ι Q := by
  refine m_copy143 hd.1 (by omega) x.toNat 0 s f ι (by omega) (by omega) (by omega) (by omega) hR hL (fun ι1 x1 x2 F1 => e_M_goBack_143 (bif_t (by omega) ?_))
  rw [show s + (x.toNat : Int) = s + x by omega] at x2
  refine m_more (by omega) (hC.fr F1).1 hB (by omega) x1 x2 (fun ι2 y1 y2 F2 => bif_i (fun e => ?_) (fun e => ?_))
  · exact h ι2 y1 (by rw [if_pos e]; exact y2) (F1.trans F2)
  · exact m_ring y1 y2 (fun ι3 z1 z2 F3 => h ι3 z1 (by rw [if_neg e]; exact z2) ((F1.trans F2).trans F3))
end Copy
