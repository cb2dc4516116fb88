/-! the commands: a literal -/
section Literal
variable {sc : bm_Sc} {β : Int → Int} {lim : Int}
def LC (ι W : bm_S) (s : Int) (f : Int → Int) (ks : Int → Int → Int) (rg PA : Int → Int) : Prop := ι 2 1 1 = s ∧ (∀ k, 0 ≤ k → k < s → ι 20 1 k = f k) ∧ (∀ q, 0 ≤ q → q < 3 → KC ι q (W 0 q 0) (ks q 0) (ks q 1) (ks q 2)) ∧ (∀ i, 0 ≤ i → i < 4 → ι 51 0 i = rg i) ∧ PaC ι PA
def LM (ι W : bm_S) (s : Int) (f : Int → Int) (ks : Int → Int → Int) (rg PA : Int → Int) : Prop := ι 13 0 6 = s ∧ (∀ k, 0 ≤ k → k < s → ι 67 0 k = f k) ∧ (∀ q, 0 ≤ q → q < 3 → KM ι q (W 0 q 0) (ks q 0) (ks q 1) (ks q 2)) ∧ (∀ i, 0 ≤ i → i < 4 → ι 77 0 (3 - i) = rg i) ∧ PaM ι PA
def LV (W : bm_S) (s : Int) (f : Int → Int) (ks : Int → Int → Int) (rg : Int → Int) : Prop := (∀ k, 0 ≤ k → k < s → -128 ≤ f k ∧ f k < 128) ∧ (∀ q, 0 ≤ q → q < 3 → KW (W 0 q 0) (ks q 0) (ks q 1) (ks q 2)) ∧ (∀ i, 0 ≤ i → i < 4 → 1 ≤ rg i ∧ rg i ≤ 4096)
def EC (ι : bm_S) (rg PA : Int → Int) : Prop := (0 ≤ ι 2 1 1 ∧ ι 2 1 1 ≤ 4096) ∧ (∀ i, 0 ≤ i → i < 4 → ι 51 0 i = rg i) ∧ PaC ι PA
def EM (ι : bm_S) (rg PA : Int → Int) : Prop := (∀ i, 0 ≤ i → i < 4 → ι 77 0 (3 - i) = rg i) ∧ PaM ι PA
abbrev fLp (t : Nat) (i j : Int) : Prop := fR t i j ∨ t = 1 ∧ (j = 3 ∨ j = 4 ∨ j = 5) ∨ (t = 2 ∨ t = 20) ∧ i = 1 ∨ t = 51 ∨ t = 52
abbrev gLp (t : Nat) (i j : Int) : Prop := gR t i j ∨ t = 79 ∨ t = 80 ∨ t = 81 ∨ t = 67 ∨ t = 13 ∧ (j = 6 ∨ j = 10) ∨ t = 70 ∨ t = 77 ∨ t = 76
theorem HC.fr {ι ι' : bm_S} {tl : Int} {W : bm_S} (h : HC ι tl W) (hF : Fr fLp ι ι') : HC ι' tl W := by
  obtain ⟨h1, ⟨a1, a2, a3, a4, a5, a6, a7, a8, a9⟩, h3⟩ := h
  refine ⟨by rw [hF 8 0 4 (by omega)]; exact h1, ⟨fun q x y => by rw [hF 43 tl q (by omega)]; exact a1 q x y, by rw [hF 7 tl 8 (by omega)]; exact a2, by rw [hF 7 tl 9 (by omega)]; exact a3, by rw [hF 44 tl 0 (by omega)]; exact a4, by rw [hF 44 tl 1 (by omega)]; exact a5, fun q x y => by rw [hF 45 tl q (by omega)]; exact a6 q x y, fun q x y => by rw [hF 46 tl q (by omega)]; exact a7 q x y, fun q x y => by rw [hF 47 tl q (by omega)]; exact a8 q x y, ?_⟩, fun q x y => (h3 q x y).fr hF (fun c hc j => by omega)⟩
  exact ⟨a9.1.fr hF (fun t j x y => by omega), a9.2.1.fr hF (fun t j x y => by omega), a9.2.2.fr hF (fun t j x y => by omega)⟩
theorem HM.fr {ι ι' : bm_S} {W : bm_S} (hO : HO W) (h : HM ι W) (hF : Fr gLp ι ι') : HM ι' W := by
  obtain ⟨a1, a2, a3, a4, a5, a6, a7⟩ := h
  refine ⟨by rw [hF 13 0 22 (by omega)]; exact a1, by rw [hF 13 0 23 (by omega)]; exact a2, fun q x y => by rw [hF 82 0 q (by omega)]; exact a3 q x y, fun q x y => by rw [hF 83 0 q (by omega)]; exact a4 q x y, fun q x y => by rw [hF 84 0 q (by omega)]; exact a5 q x y, ?_, fun q x y => (a7 q x y).fr hF (hO.1 q x y).1.2 (fun j hj => by omega)⟩
  have ha : 0 < Wa W := by
    have := p2_3 hO.2.1
    have := hO.2.2.1
    unfold Wa
    omega
  exact ⟨a6.1.fr hF (by omega) (fun t s x y z => by omega), a6.2.1.fr hF (by omega) (fun t s x y z => by omega), a6.2.2.fr hF ha (fun t s x y z => by omega)⟩
variable {W : bm_S} {tl s : Int} {f : Int → Int} {ks : Int → Int → Int} {rg PA : Int → Int}
theorem LC.take {ι ι' : bm_S} {q k b l : Int} (h : LC ι W s f ks rg PA) (hq : 0 ≤ q ∧ q < 3) (hF : Fr (fK q) ι ι') (hK : KC ι' q (W 0 q 0) k b l) : LC ι' W s f (sel ks q (t3 k b l)) rg PA := by
  obtain ⟨a1, a2, a3, a4, a5⟩ := h
  refine ⟨by rw [hF 2 1 1 (by omega)]; exact a1, fun k x y => by rw [hF 20 1 k (by omega)]; exact a2 k x y, fun z x y => ?_, fun i x y => by rw [hF 51 0 i (by omega)]; exact a4 i x y, a5.fr hF (fun j => by omega)⟩
  by_cases c : z = q
  · subst c
    rw [sel_s, t3_0, t3_1, t3_2]
    exact hK
  · rw [sel_n c]
    obtain ⟨b1, b2, b3, b4⟩ := a3 z x y
    exact ⟨by rw [hF 1 z 2 (by omega)]; exact b1, by rw [hF 1 z 3 (by omega)]; exact b2, by rw [hF 1 z 4 (by omega)]; exact b3, by rw [hF 1 z 5 (by omega)]; exact b4⟩
theorem LM.take {ι ι' : bm_S} {q k b l : Int} (h : LM ι W s f ks rg PA) (hq : 0 ≤ q ∧ q < 3) (hF : Fr (gK q) ι ι') (hK : KM ι' q (W 0 q 0) k b l) : LM ι' W s f (sel ks q (t3 k b l)) rg PA := by
  obtain ⟨a1, a2, a3, a4, a5⟩ := h
  refine ⟨by rw [hF 13 0 6 (by omega)]; exact a1, fun k x y => by rw [hF 67 0 k (by omega)]; exact a2 k x y, fun z x y => ?_, fun i x y => by rw [hF 77 0 (3 - i) (by omega)]; exact a4 i x y, a5.fr hF (fun j => by omega)⟩
  by_cases c : z = q
  · subst c
    rw [sel_s, t3_0, t3_1, t3_2]
    exact hK
  · rw [sel_n c]
    obtain ⟨b1, b2, b3, b4⟩ := a3 z x y
    exact ⟨by rw [hF 78 0 z (by omega)]; exact b1, by rw [hF 79 0 z (by omega)]; exact b2, by rw [hF 80 0 z (by omega)]; exact b3, by rw [hF 81 0 z (by omega)]; exact b4⟩
theorem KW.take {q k b l : Int} (h : ∀ q, 0 ≤ q → q < 3 → KW (W 0 q 0) (ks q 0) (ks q 1) (ks q 2)) (hK : KW (W 0 q 0) k b l) : ∀ z, 0 ≤ z → z < 3 → KW (W 0 z 0) (sel ks q (t3 k b l) z 0) (sel ks q (t3 k b l) z 1) (sel ks q (t3 k b l) z 2) := fun z x y => by
  by_cases c : z = q
  · subst c
    rw [sel_s, t3_0, t3_1, t3_2]
    exact hK
  · rw [sel_n c]
    exact h z x y
theorem LC.fr {ι ι' : bm_S} (h : LC ι W s f ks rg PA) (hF : Fr fR ι ι') : LC ι' W s f ks rg PA := by
  obtain ⟨a1, a2, a3, a4, a5⟩ := h
  refine ⟨by rw [hF 2 1 1 (by omega)]; exact a1, fun k x y => by rw [hF 20 1 k (by omega)]; exact a2 k x y, fun z x y => ?_, fun i x y => by rw [hF 51 0 i (by omega)]; exact a4 i x y, a5.fr hF (fun j => by omega)⟩
  obtain ⟨b1, b2, b3, b4⟩ := a3 z x y
  exact ⟨by rw [hF 1 z 2 (by omega)]; exact b1, by rw [hF 1 z 3 (by omega)]; exact b2, by rw [hF 1 z 4 (by omega)]; exact b3, by rw [hF 1 z 5 (by omega)]; exact b4⟩
theorem LM.fr {ι ι' : bm_S} (h : LM ι W s f ks rg PA) (hF : Fr gR ι ι') : LM ι' W s f ks rg PA := by
  obtain ⟨a1, a2, a3, a4, a5⟩ := h
  refine ⟨by rw [hF 13 0 6 (by omega)]; exact a1, fun k x y => by rw [hF 67 0 k (by omega)]; exact a2 k x y, fun z x y => ?_, fun i x y => by rw [hF 77 0 (3 - i) (by omega)]; exact a4 i x y, a5.fr hF (fun j => by omega)⟩
  obtain ⟨b1, b2, b3, b4⟩ := a3 z x y
  exact ⟨by rw [hF 78 0 z (by omega)]; exact b1, by rw [hF 79 0 z (by omega)]; exact b2, by rw [hF 80 0 z (by omega)]; exact b3, by rw [hF 81 0 z (by omega)]; exact b4⟩
theorem LC.ec {ι : bm_S} (h : LC ι W s f ks rg PA) (hs : 0 ≤ s ∧ s ≤ 4096) : EC ι rg PA := ⟨by rw [h.1]; exact hs, h.2.2.2.1, h.2.2.2.2⟩
theorem LM.em {ι : bm_S} (h : LM ι W s f ks rg PA) : EM ι rg PA := ⟨h.2.2.2.1, h.2.2.2.2⟩
theorem EC.fr {ι ι' : bm_S} {P : Nat → Int → Int → Prop} (h : EC ι rg PA) (hF : Fr P ι ι') (hP : ∀ j, ¬ P 2 1 1 ∧ ¬ P 51 0 j ∧ ¬ P 52 0 j) : EC ι' rg PA := ⟨by rw [hF 2 1 1 (hP 0).1]; exact h.1, fun i x y => by rw [hF 51 0 i (hP i).2.1]; exact h.2.1 i x y, h.2.2.fr hF (fun j => (hP j).2.2)⟩
theorem EM.fr {ι ι' : bm_S} {P : Nat → Int → Int → Prop} (h : EM ι rg PA) (hF : Fr P ι ι') (hP : ∀ j, ¬ P 77 0 j ∧ ¬ P 76 0 j) : EM ι' rg PA := ⟨fun i x y => by rw [hF 77 0 (3 - i) (hP _).1]; exact h.1 i x y, h.2.fr hF (fun j => (hP j).2)⟩
/-- a byte is added -/
theorem s_put {ι : bm_S} {K : bm_S → Prop} {H : Nat × Int → bm_S → Prop} {x p r : Int} (hs : 0 ≤ s ∧ s < 4096) (hR : cR ι β lim p r) (hL : LC ι W s f ks rg PA) (h : ∀ ι' : bm_S, cR ι' β lim p r → LC ι' W (s + 1) (fs f s (bm_byte x)) ks rg PA → Fr fLp ι ι' → K ι') : bC sc 17 [br 2 1, bi x] ι (bk0 K H) := by
  obtain ⟨a1, a2, a3, a4, a5⟩ := hL
  refine s_add (b := ι 2 1 2) (f := f) (Or.inr rfl) ⟨a1, rfl, a2⟩ (by rw [L20_1]; omega) (fun ι' hB hF => ?_)
  have hF := hF.fr
  refine h ι' (hR.fr hF (fun j => by omega) (by rw [hF 0 0 1 (by omega)]; exact hR.1) (by rw [hF 0 0 3 (by omega)]; exact hR.2.2.1)) ⟨hB.1, hB.2.2, fun q x y => ?_, fun i x y => by rw [hF 51 0 i (by omega)]; exact a4 i x y, a5.fr hF (fun j => by omega)⟩ (hF.wide fun t i j q => by omega)
  obtain ⟨b1, b2, b3, b4⟩ := a3 q x y
  exact ⟨by rw [hF 1 q 2 (by omega)]; exact b1, by rw [hF 1 q 3 (by omega)]; exact b2, by rw [hF 1 q 4 (by omega)]; exact b3, by rw [hF 1 q 5 (by omega)]; exact b4⟩
theorem m_put {ι : bm_S} {K : bm_S → Prop} {H : Nat × Int → bm_S → Prop} {x p : Int} (hs : 0 ≤ s ∧ s < 4096) (hR : mR ι β lim p) (hL : LM ι W s f ks rg PA) (h : ∀ ι' : bm_S, mR ι' β lim p → LM ι' W (s + 1) (fs f s (bm_byte x)) ks rg PA → Fr gLp ι ι' → K ι') : bC sc 213 [br 13 0, bi x] ι (bk0 K H) := by
  obtain ⟨a1, a2, a3, a4, a5⟩ := hL
  refine e_M_putOut_0 ?_
  rw [a1, by_by]
  have hF : Fr (fun t i j => t = 67 ∨ t = 13 ∧ j = 6) ι (up (up ι 67 0 s (bm_byte x)) 13 0 6 (s + 1)) := ((Fr.refl _ _).u (by omega)).u (by omega)
  refine ⟨by omega, by omega, h _ (hR.fr hF (fun j => by omega) (by rw [hF 13 0 16 (by omega)]; exact hR.1)) ⟨by simp (disch := omega) only [up_s, up_k, up_j, up_i], fun k x y => ?_, fun q x y => ?_, fun i x y => by rw [hF 77 0 (3 - i) (by omega)]; exact a4 i x y, a5.fr hF (fun j => by omega)⟩ (hF.wide fun t i j q => by omega)⟩
  · rw [up_k (by decide), up_at]
    unfold fs
    by_cases c : k = s
    · rw [if_pos c, if_pos c]
    · rw [if_neg c, if_neg c]; exact a2 k x (by omega)
  · obtain ⟨b1, b2, b3, b4⟩ := a3 q x y
    exact ⟨by rw [hF 78 0 q (by omega)]; exact b1, by rw [hF 79 0 q (by omega)]; exact b2, by rw [hF 80 0 q (by omega)]; exact b3, by rw [hF 81 0 q (by omega)]; exact b4⟩
/-- the byte that stood before -/
def bk (f : Int → Int) (s d : Int) : Int := if s < d then 0 else f (s - d) % 256
theorem bk_rg (f : Int → Int) (s d : Int) : 0 ≤ bk f s d ∧ bk f s d < 256 := by
  unfold bk
  by_cases c : s < d
  · rw [if_pos c]; omega
  · rw [if_neg c]; omega
theorem s_back {ι : bm_S} {K : Int → bm_S → Prop} {H : Nat × Int → bm_S → Prop} {d : Int} (hd : 1 ≤ d) (hs : 0 ≤ s ∧ s ≤ 4096) (a1 : ι 2 1 1 = s) (a2 : ∀ k, 0 ≤ k → k < s → ι 20 1 k = f k) (h : K (bk f s d) ι) : bC sc 15 [br 2 1, bi (s - d)] ι (bk1 K H) := by
  refine s_at (Or.inr rfl) (by rw [a1, L20_1]; omega) (K_of h ?_)
  unfold bk
  rw [a1]
  by_cases c : s < d
  · rw [if_pos c, if_pos (by omega)]
  · rw [if_neg c, if_neg (by omega), a2 _ (by omega) (by omega)]
theorem m_back {ι : bm_S} {K : Int → bm_S → Prop} {H : Nat × Int → bm_S → Prop} {d : Int} (hd : 1 ≤ d) (hd1 : d ≤ 4096) (hs : 0 ≤ s ∧ s ≤ 4096) (a1 : ι 13 0 6 = s) (a2 : ∀ k, 0 ≤ k → k < s → ι 67 0 k = f k) (h : K (bk f s d) ι) : bC sc 211 [br 13 0, bi d] ι (bk1 K H) := by
  refine e_M_back_0 ?_
  rw [a1]
  refine bif_i (fun c => K_of h (if_pos c)) (fun c => ⟨by omega, by omega, K_of h ?_⟩)
  unfold bk
  rw [if_neg c, a2 _ (by omega) (by omega)]
theorem m_context {ι : bm_S} {K : Int → bm_S → Prop} {H : Nat × Int → bm_S → Prop} {k : Int} (hs : 0 ≤ s ∧ s ≤ 4096) (a1 : ι 13 0 6 = s) (a2 : ∀ k, 0 ≤ k → k < s → ι 67 0 k = f k) (hk : 0 ≤ k ∧ k < 12) (e : ι 79 0 0 = k) (h : K (cx (ι 82 0 k) (bk f s 1) (bk f s 2)) ι) : bC sc 212 [br 13 0] ι (bk1 K H) := by
  have ha := bk_rg f s 1
  have hb := bk_rg f s 2
  have h3 := cxs_rg (bk f s 1)
  have h4 := cxs_rg (bk f s 2)
  refine e_M_context_0 (m_back (by omega) (by omega) hs a1 a2 (m_back (by omega) (by omega) hs a1 a2 ?_))
  rw [e]
  refine ⟨by omega, by omega, bif_i (fun c => K_of h (if_pos c)) (fun c => bif_i (fun c1 => ⟨by omega, K_of h (by unfold cx; rw [if_neg c, if_pos c1])⟩) (fun c1 => bif_i (fun c2 => m_first ha (m_second hb (K_of h (by unfold cx; rw [if_neg c, if_neg c1, if_pos c2])))) (fun c2 => m_sizeOf ha ⟨by omega, m_sizeOf hb ⟨by omega, K_of h (by unfold cx; rw [if_neg c, if_neg c1, if_neg c2])⟩⟩)))⟩
/-- a literal -/
theorem j_literal (hw : wfβ β lim) (hO : HO W) (htl : tl = 0 ∨ tl = 1) (hs : 0 ≤ s ∧ s < 4096) (hV : LV W s f ks rg) (p : Int) (hp0 : 0 ≤ p) (hp1 : p ≤ lim) :
    ∃ (p' r v : Int) (ks' : Int → Int → Int), p ≤ p' ∧ p' ≤ lim ∧ (r = 0 ∨ 0 < r ∧ r < 18) ∧ LV W (s + 1) (fs f s v) ks' rg ∧
    (∀ (ι : bm_S) (PA : Int → Int) (K : bm_S → Prop) (H : Nat × Int → bm_S → Prop), cR ι β lim p 0 → HC ι tl W → LC ι W s f ks rg PA → (r = 0 → ∀ ι' : bm_S, cR ι' β lim p' 0 → LC ι' W (s + 1) (fs f s v) ks' rg PA → Fr fLp ι ι' → K ι') → (r ≠ 0 → ∀ ι' : bm_S, cR ι' β lim p' r → EC ι' rg PA → Fr fLp ι ι' → K ι') → bC sc 88 [br 8 0] ι (bk0 K H)) ∧
    (∀ (ι : bm_S) (PA : Int → Int) (K : bm_S → Prop) (H : Nat × Int → bm_S → Prop), mR ι β lim p → HM ι W → LM ι W s f ks rg PA → (r = 0 → ∀ ι' : bm_S, mR ι' β lim p' → LM ι' W (s + 1) (fs f s v) ks' rg PA → Fr gLp ι ι' → K ι') → (r ≠ 0 → ∀ ι' : bm_S, mR ι' β lim p' → ι' 12 0 6 = r → EM ι' rg PA → Fr gLp ι ι' → H (12, 0) ι') → bC sc 214 [br 13 0] ι (bk0 K H)) := by
  have hO0 := hO.1 0 (by omega) (by omega)
  have hM0 := hO.2.2.2.2.2.2.1
  have hn0 := hO.2.2.2.1
  have hC0 := hO.2.2.2.2.2.2.2.2.1
  have ha := bk_rg f s 1
  have hb := bk_rg f s 2
  obtain ⟨p1, r1, k', b', l', i1, i2, i3, i4, i5, i6⟩ := j_takeOne (sc := sc) hw 0 (by omega) (hV.2.1 0 (by omega) (by omega)) hO0.2 p hp0 hp1
  -- comp up to the code
  have goC : ∀ (ι1 : bm_S) (PA : Int → Int) (k : Int) (Q : bm_O → bm_S → Prop), (ι1 2 1 1 = s) → (∀ k, 0 ≤ k → k < s → ι1 20 1 k = f k) → HC ι1 tl W → ι1 1 0 3 = k → 0 ≤ k ∧ k < 12 → (∀ c : Int, 0 ≤ c ∧ c < 64 → c = cx (ι1 45 tl k) (bk f s 1) (bk f s 2) → bC sc 5 [br 0 0, br 3 (36 * tl + 3 * W 7 0 (64 * k + c))] ι1 (bk1 (fun r6 ι6 => bC sc 2 [br 0 0] ι6 (bk1 (fun r7 ι7 => (if r7 = (0 : Int) then Q (.inl none) ι7 else bC sc 17 [br 2 1, bi r6] ι7 (bk0 (fun ι8 => Q (.inl none) ι8) (bq Q)))) (bq Q))) (bq Q))) →
      ((0 : Int) = 0) ∧ (0 ≤ ι1 1 0 3 ∧ ι1 1 0 3 < (12 : Int)) ∧ (bm_rg (ι1 2 1 1 - 1)) ∧ bC sc 15 [br 2 1, bi (ι1 2 1 1 - 1)] ι1 (bk1 (fun r2 ι2 => (bm_rg (ι2 2 1 1 - 2)) ∧ bC sc 15 [br 2 1, bi (ι2 2 1 1 - 2)] ι2 (bk1 (fun r3 ι3 => bC sc 144 [bi (ι1 45 (ι1 8 0 4) (ι1 1 0 3)), bi r2, bi r3] ι3 (bk1 (fun r4 ι4 => ((0 : Int) = 0) ∧ (bm_rg (64 * ι4 1 0 3)) ∧ (bm_rg (64 * ι4 1 0 3 + r4)) ∧ (0 ≤ 64 * ι4 1 0 3 + r4 ∧ 64 * ι4 1 0 3 + r4 < (768 : Int)) ∧ ((0 : Int) = 0) ∧ bC sc 67 [br 7 (ι4 8 0 4), bi 0, bi (ι4 46 (ι4 8 0 4) (64 * ι4 1 0 3 + r4))] ι4 (bk3 (fun r5 ι5 => bC sc 5 [br 0 0, br 3 r5] ι5 (bk1 (fun r6 ι6 => bC sc 2 [br 0 0] ι6 (bk1 (fun r7 ι7 => (if r7 = (0 : Int) then Q (.inl none) ι7 else bC sc 17 [br 2 1, bi r6] ι7 (bk0 (fun ι8 => Q (.inl none) ι8) (bq Q)))) (bq Q))) (bq Q))) (bq Q))) (bq Q))) (bq Q))) (bq Q)) := by
    intro ι1 PA k Q a1 a2 hC e hk h
    rw [e, a1]
    refine ⟨rfl, hk, by omega, s_back (f := f) (by omega) (by omega) a1 a2 ?_⟩
    rw [a1]
    refine ⟨by omega, s_back (f := f) (by omega) (by omega) a1 a2 ?_⟩
    rw [hC.1]
    refine s_context ha hb ?_
    rw [e, hC.1]
    have hc := cx_rg (m := ι1 45 tl k) ha hb
    have h := h _ hc rfl
    have hm := hM0 (64 * k + cx (ι1 45 tl k) (bk f s 1) (bk f s 2)) (by omega) (by omega)
    refine ⟨rfl, by omega, by omega, by omega, rfl, ?_⟩
    rw [hC.2.1.2.2.2.2.2.2.1 _ (by omega) (by omega)]
    refine e_L_code_0 (bif_t rfl ⟨⟨by omega, by omega, by omega⟩, ?_⟩)
    rw [show min (max (W 7 0 (64 * k + cx (ι1 45 tl k) (bk f s 1) (bk f s 2))) 0) 11 = W 7 0 (64 * k + cx (ι1 45 tl k) (bk f s 1) (bk f s 2)) by omega]
    exact ⟨rfl, h⟩
  have V0 : ∀ v, -128 ≤ v → v < 128 → ∀ k, 0 ≤ k → k < s + 1 → -128 ≤ fs f s v k ∧ fs f s v k < 128 := fun v v0 v1 k x y => by
    unfold fs
    by_cases c : k = s
    · rw [if_pos c]; omega
    · rw [if_neg c]; exact hV.1 k x (by omega)
  have hVt := KW.take (q := 0) hV.2.1 i4
  by_cases hr : r1 = 0
  · obtain ⟨c, hc⟩ : ∃ c, c = cx (W 6 0 k') (bk f s 1) (bk f s 2) := ⟨_, rfl⟩
    have hcr := cx_rg (m := W 6 0 k') ha hb
    rw [← hc] at hcr
    have hk := i4.2.1
    have hk2 := i4.1
    obtain ⟨t, ht⟩ : ∃ t, t = W 7 0 (64 * k' + c) := ⟨_, rfl⟩
    have htr := hM0 (64 * k' + c) (by omega) (by omega)
    rw [← ht] at htr
    obtain ⟨p2, r2, v, j1, j2, j3, j4, j5, j6⟩ := j_signT (sc := sc) (a := 256) (L := W 10 t) (lone := W 9 0 t) hw (by omega) (hC0 t htr.1 htr.2).1 p1 (by omega) i2
    refine ⟨p2, r2, bm_byte v, sel ks 0 (t3 k' b' l'), by omega, j2, by omega, ⟨V0 _ (by_rg v).1 (by_rg v).2, hVt, hV.2.2⟩, ?_, ?_⟩
    · intro ι PA K H hR hC hL h hh
      refine e_O_makeLiteral_0 ⟨by omega, i5 ι _ _ hR (hL.2.2.1 0 (by omega) (by omega)) (hC.2.2 0 (by omega) (by omega)) (fun ι1 x1 x2 x3 F1 => ?_)⟩
      have L1 := hL.take (by omega) F1 (x2 hr)
      have C1 := hC.fr (F1.wide fun t i j q => by omega)
      rw [hr] at x1
      refine goC ι1 PA k' _ L1.1 L1.2.1 C1 (x2 hr).2.1 (by omega) (fun c' _ e' => ?_)
      rw [C1.2.1.2.2.2.2.2.1 k' hk.1 hk.2, ← hc] at e'
      rw [e', ← ht]
      refine j5 ι1 _ _ _ (by rw [L22 (by omega), if_pos (by omega)]; omega) x1 (by have := C1.2.1.2.2.2.2.2.2.2.2.1 t htr.1 htr.2; rw [show 36 * tl + 3 * t + 0 = 36 * tl + 3 * t by omega] at this; exact this) (fun ι2 y1 F2 => ?_)
      have hF : Fr fLp ι ι2 := (F1.wide fun t i j q => by omega).trans (F2.wide fun t i j q => by omega)
      have L2 := L1.fr F2
      refine s_fine (fun e => ?_) (fun e => ?_)
      · rw [y1.2.2.1] at e
        rw [e] at y1
        rw [if_pos e]
        exact bif_f (by omega) (s_put hs y1 L2 (fun ι3 z1 z2 F3 => h e ι3 z1 z2 (hF.trans F3)))
      · rw [y1.2.2.1] at e
        exact bif_t rfl (hh e ι2 y1 (L2.ec (by omega)) hF)
    · intro ι PA K H hR hM hL h hh
      refine e_M_readLiteral_0 (i6 ι _ _ hR (hL.2.2.1 0 (by omega) (by omega)) (hM.2.2.2.2.2.2 0 (by omega) (by omega)) (fun _ ι1 x1 x2 F1 => ?_) (fun e => absurd hr e))
      have L1 := hL.take (by omega) F1 x2
      have M1 := hM.fr hO (F1.wide fun t i j q => by omega)
      rw [x2.2.1]
      refine ⟨by omega, by omega, m_context (by omega) L1.1 L1.2.1 (k := k') (by omega) x2.2.1 ?_⟩
      rw [M1.2.2.1 k' hk.1 hk.2, ← hc, M1.2.2.2.1 _ (by omega) (by omega), ← ht]
      refine ⟨by omega, by omega, by omega, by omega, ?_⟩
      refine j6 ι1 _ _ _ (by omega) (by omega) x1 (M1.2.2.2.2.2.1.1 t htr.1 htr.2) (fun e ι2 y1 F2 => ?_) (fun e ι2 y1 y2 F2 => ?_)
      · exact m_put hs y1 (L1.fr F2) (fun ι3 z1 z2 F3 => h e ι3 z1 z2 (((F1.wide fun t i j q => by omega).trans (F2.wide fun t i j q => by omega)).trans F3))
      · exact hh (by omega) ι2 y1 (by omega) (L1.fr F2).em ((F1.wide fun t i j q => by omega).trans (F2.wide fun t i j q => by omega))
  · refine ⟨p1, r1, 0, sel ks 0 (t3 k' b' l'), i1, i2, by omega, ⟨V0 0 (by omega) (by omega), hVt, hV.2.2⟩, ?_, ?_⟩
    · intro ι PA K H hR hC hL h hh
      refine e_O_makeLiteral_0 ⟨by omega, i5 ι _ _ hR (hL.2.2.1 0 (by omega) (by omega)) (hC.2.2 0 (by omega) (by omega)) (fun ι1 x1 x2 x3 F1 => ?_)⟩
      have E1 := (hL.ec (by omega)).fr F1 (fun j => by omega)
      have C1 := hC.fr (F1.wide fun t i j q => by omega)
      refine goC ι1 PA (ι1 1 0 3) _ (by rw [F1 2 1 1 (by omega)]; exact hL.1) (fun k x y => by rw [F1 20 1 k (by omega)]; exact hL.2.1 k x y) C1 rfl x3 (fun c' _ e' => ?_)
      exact s_sign_bad (by rw [x1.2.2.1]; exact hr) (s_fine (fun e => absurd (x1.2.2.1.symm.trans e) hr) (fun _ => bif_t rfl (hh hr ι1 x1 E1 (F1.wide fun t i j q => by omega))))
    · intro ι PA K H hR hM hL h hh
      exact e_M_readLiteral_0 (i6 ι _ _ hR (hL.2.2.1 0 (by omega) (by omega)) (hM.2.2.2.2.2.2 0 (by omega) (by omega)) (fun e => absurd e hr) (fun e ι1 x1 x2 F1 => hh e ι1 x1 x2 (hL.em.fr F1 (fun j => by omega)) (F1.wide fun t i j q => by omega)))
end Literal
