/-! a command -/
section Command
variable {sc : bm_Sc} {β : Int → Int} {lim : Int} {W : bm_S} {tl s : Int} {f : Int → Int} {ks : Int → Int → Int} {rg PA : Int → Int} {pc wn en : Int} {g c : Int → Int}
theorem rp_rg {d : Int} (h : ∀ i, 0 ≤ i → i < 4 → 1 ≤ rg i ∧ rg i ≤ 4096) (hd : 1 ≤ d ∧ d ≤ 4096) : ∀ i, 0 ≤ i → i < 4 → 1 ≤ rp rg d i ∧ rp rg d i ≤ 4096 := fun i x y => by
  unfold rp
  by_cases c : i = 0
  · rw [if_pos c]; exact hd
  · rw [if_neg c]; exact h (i - 1) (by omega) (by omega)
theorem wap_rg {n wi ch : Int} (h : ∀ k, 0 ≤ k → k < s → -128 ≤ f k ∧ f k < 128) (hn : 4 ≤ n ∧ n ≤ 10) (hw : 0 ≤ wi ∧ wi < 32) (hc : 0 ≤ ch ∧ ch < 24) (hb : ∀ k, 0 ≤ k → k < 2240 → -128 ≤ g k ∧ g k < 128) : ∀ k, 0 ≤ k → -128 ≤ wap f s g n wi ch k ∧ wap f s g n wi ch k < 128 := fun k x => by
  unfold wap
  by_cases q : k < s
  · rw [if_pos q]; exact h k x q
  · rw [if_neg q]; exact chb_rg hn hw hc hb
/-- how far back, and what is made by it -/
theorem j_go (hw : wfβ β lim) (hO : HO W) (hCO : CO pc wn g c) (hs : 0 ≤ s ∧ s < en) (hen : en ≤ 4096) (hV : LV W s f ks rg) (hB : PB PA pc (s + 1)) (x : Int) (hx : 2 ≤ x ∧ x ≤ 20000000) (sg : Int) (hsg : 0 ≤ sg ∧ sg < Wa W) (p r0 : Int) (hp0 : 0 ≤ p) (hp1 : p ≤ lim) (hr0 : r0 = 0 ∨ 0 < r0 ∧ r0 < 18) :
    ∃ (p' r s' : Int) (f' rg' PA' : Int → Int), p ≤ p' ∧ p' ≤ lim ∧ (r = 0 ∨ 0 < r ∧ r < 18) ∧ (r0 ≠ 0 → r = r0 ∧ p' = p) ∧ (r = 0 → s < s' ∧ s' ≤ en ∧ LV W s' f' ks rg' ∧ PB PA' pc s') ∧
    (∀ (ι : bm_S) (K : bm_S → Prop) (H : Nat × Int → bm_S → Prop), cR ι β lim p r0 → HC ι tl W → CC ι pc wn en g c → (r0 = 0 → LC ι W s f ks rg PA) → EC ι rg PA → (r = 0 → ∀ ι' : bm_S, cR ι' β lim p' 0 → LC ι' W s' f' ks rg' PA' → Fr fLp ι ι' → K ι') → (r ≠ 0 → ∀ ι' : bm_S, cR ι' β lim p' r → EC ι' rg PA → Fr fLp ι ι' → K ι') →
      bC sc 90 [br 8 0, bi sg] ι (bk1 (fun r3 ι3 => (if (0 : Int) < r3 then (if min (ι3 8 0 13) (ι3 2 1 1) < r3 then (bm_rg (r3 - min (ι3 8 0 13) (ι3 2 1 1))) ∧ (bm_rg (r3 - min (ι3 8 0 13) (ι3 2 1 1) - 1)) ∧ bC sc 92 [br 8 0, bi x, bi (r3 - min (ι3 8 0 13) (ι3 2 1 1) - 1)] ι3 (bk0 K H) else bC sc 91 [br 8 0, bi x, bi r3, bi sg] ι3 (bk0 K H)) else bC sc 3 [br 0 0, bi 9] ι3 (bk0 K H))) H)) ∧
    (r0 = 0 → ∀ (ι : bm_S) (Q : bm_O → bm_S → Prop) (v1 v5 v6 v7 : bm_V), mR ι β lim p → HM ι W → CM ι pc wn g c → LM ι W s f ks rg PA → (r = 0 → ∀ ι' : bm_S, mR ι' β lim p' → LM ι' W s' f' ks rg' PA' → Fr gLp ι ι' → Q (.inl none) ι') → (r ≠ 0 → ∀ ι' : bm_S, mR ι' β lim p' → ι' 12 0 6 = r → EM ι' rg PA → Fr gLp ι ι' → bq Q (12, 0) ι') → bW sc 217 60 [br 13 0, v1, bi x, bi en, bi sg, v5, v6, v7] [] ι Q) := by
  obtain ⟨p1, r1, d, i1, i2, i3, i4, i5, i6, i7⟩ := j_distance (sc := sc) (tl := tl) hw hO hV.2.2 sg hsg p r0 hp0 hp1
  have hwn := hCO.2.1
  -- comp, broken before
  have errC : ∀ (ι : bm_S) (K : bm_S → Prop) (H : Nat × Int → bm_S → Prop), r1 ≠ 0 → cR ι β lim p r0 → HC ι tl W → CC ι pc wn en g c → EC ι rg PA → (∀ ι' : bm_S, cR ι' β lim p1 r1 → EC ι' rg PA → Fr fLp ι ι' → K ι') →
      bC sc 90 [br 8 0, bi sg] ι (bk1 (fun r3 ι3 => (if (0 : Int) < r3 then (if min (ι3 8 0 13) (ι3 2 1 1) < r3 then (bm_rg (r3 - min (ι3 8 0 13) (ι3 2 1 1))) ∧ (bm_rg (r3 - min (ι3 8 0 13) (ι3 2 1 1) - 1)) ∧ bC sc 92 [br 8 0, bi x, bi (r3 - min (ι3 8 0 13) (ι3 2 1 1) - 1)] ι3 (bk0 K H) else bC sc 91 [br 8 0, bi x, bi r3, bi sg] ι3 (bk0 K H)) else bC sc 3 [br 0 0, bi 9] ι3 (bk0 K H))) H) := by
    intro ι K H hr hR hC hCC hE h
    refine i6 ι _ _ hR hC hE.2.1 (fun ι1 x1 F1 => ?_)
    have F1' : Fr fLp ι ι1 := F1.wide fun t i j q => by omega
    have E1 := hE.fr F1 (fun j => by omega)
    have C1 := hCC.fr F1'
    have hK := h ι1 x1 E1 F1'
    have hr1 : ι1 0 0 3 ≠ 0 := by rw [x1.2.2.1]; exact hr
    have hz := E1.1
    rw [C1.2.1]
    refine bif_i (fun c1 => bif_i (fun c2 => ⟨by omega, by omega, ?_⟩) (fun c2 => ?_)) (fun c1 => ?_)
    · exact s_word (r0 := r1) (W := W) (f := f) (ks := ks) (rg := rg) (PA := fun _ => 0) hCO hz (by omega) (by omega) (fun _ _ _ _ _ => ⟨Int.le_refl _, show (0 : Int) ≤ _ by omega⟩) x1 C1 rfl (fun e => absurd e hr) (fun e => absurd e hr) (fun e => absurd e hr) (fun _ => hK)
    · exact s_copy8 (by omega) C1.2.2.1 (by omega) hz rfl (fun _ e => absurd e hr1) (fun _ => hK) (fun _ => hr1)
    · exact s_broken (fun e => absurd e hr1) (fun _ => hK)
  by_cases hr : r1 = 0
  · have hr00 : r0 = 0 := by
      by_cases e : r0 = 0
      · exact e
      · exact absurd ((i3 e).1.symm.trans hr) e
    subst hr
    by_cases c1 : 0 < d
    · by_cases c2 : min wn s < d
      · -- a word
        obtain ⟨w, ew⟩ : ∃ w, w = d - min wn s - 1 := ⟨_, rfl⟩
        have hwr : wr c x w (en - s) = 0 ∨ 0 < wr c x w (en - s) ∧ wr c x w (en - s) < 18 := by unfold wr; grind
        refine ⟨p1, wr c x w (en - s), s + chs x (wc c x w), wap f s g x (wi c x w) (wc c x w), rg, ntp PA pc 11, i1, i2, hwr, fun e => absurd hr00 e, fun e => ?_, ?_, ?_⟩
        · have hh : 4 ≤ x ∧ x ≤ 10 ∧ wc c x w < 24 ∧ chs x (wc c x w) ≤ en - s := by unfold wr at e; grind
          obtain ⟨k1, k2, k3, k4⟩ := wi_rg (n := x) (w := w) hCO.2.2.2 (by omega)
          have hz := chs_rg ⟨hh.1, hh.2.1⟩ ⟨k4, hh.2.2.1⟩
          refine ⟨by omega, by omega, ⟨fun k a b => wap_rg hV.1 ⟨hh.1, hh.2.1⟩ k3 ⟨k4, hh.2.2.1⟩ hCO.2.2.1 k a, hV.2⟩, (hB.more).mono (by omega)⟩
        · intro ι K H hR hC hCC hL hE h hh
          refine i6 ι _ _ hR hC hE.2.1 (fun ι1 x1 F1 => ?_)
          have F1' : Fr fLp ι ι1 := F1.wide fun t i j q => by omega
          have L1 := (hL hr00).fr F1
          have C1 := hCC.fr F1'
          rw [C1.2.1, L1.1, ← ew]
          refine bif_t c1 (bif_t c2 ⟨by omega, by omega, ?_⟩)
          refine s_word (r0 := 0) hCO (by omega) (by omega) (by omega) hB x1 C1 L1.1 (fun _ => L1) (fun _ e ι2 y1 y2 F2 => h e ι2 y1 y2 (F1'.trans F2)) (fun _ e => ?_) (fun e => absurd rfl e)
          have F2 : Fr fR ι1 (up ι1 0 0 3 (wr c x w (en - s))) := (Fr.refl _ _).u (by omega)
          exact hh e _ (x1.fr F2 (fun j => by omega) (by simp (disch := omega) only [up_s, up_k, up_j, up_i]; exact x1.1) (by simp (disch := omega) only [up_s, up_k, up_j, up_i])) ((hE.fr F1 (fun j => by omega)).fr F2 (fun j => by omega)) (F1'.trans (F2.wide fun t i j q => by omega))
        · intro _ ι Q v1 v5 v6 v7 hR hM hCM hL h hh
          refine e_M_goBack_60 (i7 hr00 ι _ _ hR hM hL.2.2.2.1 (fun _ ι1 x1 F1 => ?_) (fun e => absurd rfl e))
          have F1' : Fr gLp ι ι1 := F1.wide fun t i j q => by omega
          have L1 := hL.fr F1
          have C1 := hCM.fr F1'
          have go : bC sc 218 [br 13 0, bi w, bi x, bi en] ι1 (bk0 (fun ι3 => Q (.inl none) ι3) (bq Q)) := m_word hCO (by omega) hen (by omega) hB x1 C1 L1 (fun e ι2 y1 y2 F2 => h e ι2 y1 y2 (F1'.trans F2)) (fun e ι2 y1 y2 y3 F2 => hh e ι2 y1 y2 y3 (F1'.trans F2))
          rw [C1.2.1, L1.1]
          refine bif_t c1 (bif_i (fun c3 => bif_f (by omega) ⟨by omega, by omega, ?_⟩) (fun c3 => bif_f (by omega) ⟨by omega, by omega, ?_⟩))
          · rw [show d - wn - 1 = w by omega]; exact go
          · rw [show d - s - 1 = w by omega]; exact go
      · -- a copy
        by_cases c3 : x ≤ en - s
        · refine ⟨p1, 0, s + x, cpy d x.toNat s f, if sg = 0 then rg else rp rg d, ntp PA pc 10, i1, i2, by omega, fun e => absurd hr00 e, fun _ => ⟨by omega, by omega, ⟨fun k a b => cpy_rg x.toNat s f hV.1 k a (by omega), hV.2.1, ?_⟩, (hB.more).mono (by omega)⟩, ?_, ?_⟩
          · by_cases e : sg = 0
            · rw [if_pos e]; exact hV.2.2
            · rw [if_neg e]; exact rp_rg hV.2.2 (by omega)
          · intro ι K H hR hC hCC hL hE h hh
            refine i6 ι _ _ hR hC hE.2.1 (fun ι1 x1 F1 => ?_)
            have F1' : Fr fLp ι ι1 := F1.wide fun t i j q => by omega
            have L1 := (hL hr00).fr F1
            have C1 := hCC.fr F1'
            rw [C1.2.1, L1.1]
            exact bif_t c1 (bif_f c2 (s_copy (by omega) (by omega) hen hCO.1 hB C1 x1 L1 (fun ι2 y1 y2 F2 => h rfl ι2 y1 y2 (F1'.trans F2))))
          · intro _ ι Q v1 v5 v6 v7 hR hM hCM hL h hh
            refine e_M_goBack_60 (i7 hr00 ι _ _ hR hM hL.2.2.2.1 (fun _ ι1 x1 F1 => ?_) (fun e => absurd rfl e))
            have F1' : Fr gLp ι ι1 := F1.wide fun t i j q => by omega
            have L1 := hL.fr F1
            have C1 := hCM.fr F1'
            have go : ∀ v6 : bm_V, bW sc 217 143 [br 13 0, v1, bi x, bi en, bi sg, bi d, v6, bi 0] [] ι1 Q := fun v6 => m_copy (by omega) (by omega) hen hB C1 x1 L1 (fun ι2 y1 y2 F2 => h rfl ι2 y1 y2 (F1'.trans F2))
            rw [C1.2.1, L1.1]
            exact bif_t c1 (bif_i (fun c4 => bif_t (by omega) ⟨by omega, bif_t (by omega) (go _)⟩) (fun c4 => bif_t (by omega) ⟨by omega, bif_t (by omega) (go _)⟩))
        · refine ⟨p1, 8, s, f, rg, PA, i1, i2, by omega, fun e => absurd hr00 e, fun e => by omega, ?_, ?_⟩
          · intro ι K H hR hC hCC hL hE h hh
            refine i6 ι _ _ hR hC hE.2.1 (fun ι1 x1 F1 => ?_)
            have F1' : Fr fLp ι ι1 := F1.wide fun t i j q => by omega
            have L1 := (hL hr00).fr F1
            have C1 := hCC.fr F1'
            have hs1 := L1.1
            rw [C1.2.1, L1.1]
            refine bif_t c1 (bif_f c2 (s_copy8 (s := s) (by omega) C1.2.2.1 (by omega) (by omega) hs1 (fun _ _ => ?_) (fun e => absurd x1.2.2.1 e) (fun e => absurd e c3)))
            have F2 : Fr fR ι1 (up ι1 0 0 3 8) := (Fr.refl _ _).u (by omega)
            exact hh (by omega) _ (x1.fr F2 (fun j => by omega) (by simp (disch := omega) only [up_s, up_k, up_j, up_i]; exact x1.1) (by simp (disch := omega) only [up_s, up_k, up_j, up_i])) ((hE.fr F1 (fun j => by omega)).fr F2 (fun j => by omega)) (F1'.trans (F2.wide fun t i j q => by omega))
          · intro _ ι Q v1 v5 v6 v7 hR hM hCM hL h hh
            refine e_M_goBack_60 (i7 hr00 ι _ _ hR hM hL.2.2.2.1 (fun _ ι1 x1 F1 => ?_) (fun e => absurd rfl e))
            have F1' : Fr gLp ι ι1 := F1.wide fun t i j q => by omega
            have L1 := hL.fr F1
            have C1 := hCM.fr F1'
            have go : ∀ N : bm_S → Prop, bC sc 152 [br 13 0, bi 8] ι1 (bk0 N (bq Q)) := fun N => by
              have F2 : Fr gR ι1 (up ι1 12 0 6 8) := (Fr.refl _ _).u (by omega)
              exact m_fail (hh (by omega) _ (x1.fr F2 (fun j => by omega) (by simp (disch := omega) only [up_s, up_k, up_j, up_i]; exact x1.1)) (by simp (disch := omega) only [up_s, up_k, up_j, up_i]) (L1.em.fr F2 (fun j => by omega)) (F1'.trans (F2.wide fun t i j q => by omega)))
            rw [C1.2.1, L1.1]
            exact bif_t c1 (bif_i (fun c4 => bif_t (by omega) ⟨by omega, bif_f (by omega) (go _)⟩) (fun c4 => bif_t (by omega) ⟨by omega, bif_f (by omega) (go _)⟩))
    · refine ⟨p1, 9, s, f, rg, PA, i1, i2, by omega, fun e => absurd hr00 e, fun e => by omega, ?_, ?_⟩
      · intro ι K H hR hC hCC hL hE h hh
        refine i6 ι _ _ hR hC hE.2.1 (fun ι1 x1 F1 => ?_)
        have F1' : Fr fLp ι ι1 := F1.wide fun t i j q => by omega
        have F2 : Fr fR ι1 (up ι1 0 0 3 9) := (Fr.refl _ _).u (by omega)
        exact bif_f c1 (s_broken (fun _ => hh (by omega) _ (x1.fr F2 (fun j => by omega) (by simp (disch := omega) only [up_s, up_k, up_j, up_i]; exact x1.1) (by simp (disch := omega) only [up_s, up_k, up_j, up_i])) ((hE.fr F1 (fun j => by omega)).fr F2 (fun j => by omega)) (F1'.trans (F2.wide fun t i j q => by omega))) (fun e => absurd x1.2.2.1 e))
      · intro _ ι Q v1 v5 v6 v7 hR hM hCM hL h hh
        refine e_M_goBack_60 (i7 hr00 ι _ _ hR hM hL.2.2.2.1 (fun _ ι1 x1 F1 => ?_) (fun e => absurd rfl e))
        have F1' : Fr gLp ι ι1 := F1.wide fun t i j q => by omega
        have F2 : Fr gR ι1 (up ι1 12 0 6 9) := (Fr.refl _ _).u (by omega)
        exact bif_f c1 (m_fail (hh (by omega) _ (x1.fr F2 (fun j => by omega) (by simp (disch := omega) only [up_s, up_k, up_j, up_i]; exact x1.1)) (by simp (disch := omega) only [up_s, up_k, up_j, up_i]) ((hL.fr F1).em.fr F2 (fun j => by omega)) (F1'.trans (F2.wide fun t i j q => by omega))))
  · refine ⟨p1, r1, s, f, rg, PA, i1, i2, by omega, i3, fun e => absurd e hr, ?_, ?_⟩
    · intro ι K H hR hC hCC hL hE h hh
      exact errC ι K H hr hR hC hCC hE (hh hr)
    · intro e ι Q v1 v5 v6 v7 hR hM hCM hL h hh
      exact e_M_goBack_60 (i7 e ι _ _ hR hM hL.2.2.2.1 (fun e => absurd e hr) (fun e ι1 x1 x2 F1 => hh e ι1 x1 x2 (hL.em.fr F1 (fun j => by omega)) (F1.wide fun t i j q => by omega)))
/-- literals, one after the other -/
theorem j_literals (hw : wfβ β lim) (hO : HO W) (htl : tl = 0 ∨ tl = 1) {n : Int} (hn : n ≤ 5000) : ∀ (m : Nat) (i s : Int) (f : Int → Int) (ks : Int → Int → Int) (p : Int), i = n - m → 0 ≤ i → 0 ≤ s → s + m ≤ 4096 → LV W s f ks rg → 0 ≤ p → p ≤ lim →
    ∃ (p' r : Int) (f' : Int → Int) (ks' : Int → Int → Int), p ≤ p' ∧ p' ≤ lim ∧ (r = 0 ∨ 0 < r ∧ r < 18) ∧ LV W (s + m) f' ks' rg ∧
    (∀ (ι : bm_S) (PA : Int → Int) (Q : bm_O → bm_S → Prop) (v1 v3 v4 v8 v9 : bm_V) (x2 x6 : Int), cR ι β lim p 0 → HC ι tl W → LC ι W s f ks rg PA → (r = 0 → ∀ ι' : bm_S, cR ι' β lim p' 0 → LC ι' W (s + m) f' ks' rg PA → Fr fLp ι ι' → bW sc 87 196 [br 8 0, v1, bi x2, v3, v4, bi n, bi x6, bi n, v8, v9] [] ι' Q) → (r ≠ 0 → ∀ ι' : bm_S, cR ι' β lim p' r → EC ι' rg PA → Fr fLp ι ι' → Q (.inl none) ι') → bW sc 87 169 [br 8 0, v1, bi x2, v3, v4, bi n, bi x6, bi i, v8, v9] [] ι Q) ∧
    (∀ (ι : bm_S) (PA : Int → Int) (Q : bm_O → bm_S → Prop) (v1 v3 v5 v6 : bm_V) (x2 x4 x8 : Int), mR ι β lim p → HM ι W → LM ι W s f ks rg PA → (r = 0 → ∀ ι' : bm_S, mR ι' β lim p' → LM ι' W (s + m) f' ks' rg PA → Fr gLp ι ι' → bW sc 216 145 [br 13 0, v1, bi x2, v3, bi x4, v5, v6, bi n, bi x8, bi n] [] ι' Q) → (r ≠ 0 → ∀ ι' : bm_S, mR ι' β lim p' → ι' 12 0 6 = r → EM ι' rg PA → Fr gLp ι ι' → bq Q (12, 0) ι') → bW sc 216 145 [br 13 0, v1, bi x2, v3, bi x4, v5, v6, bi n, bi x8, bi i] [] ι Q)
  | 0, i, s, f, ks, p, hi, hi0, hs0, hs1, hV, hp0, hp1 => by
    have e0 : s + (0 : Nat) = s := by omega
    refine ⟨p, 0, f, ks, by omega, hp1, by omega, by rw [e0]; exact hV, ?_, ?_⟩
    · intro ι PA Q v1 v3 v4 v8 v9 x2 x6 hR hC hL h hh
      have := h rfl ι hR (by rw [e0]; exact hL) (Fr.refl _ _)
      rw [show i = n by omega]
      exact e_O_makeCommand_169 (bif_t (by omega) this)
    · intro ι PA Q v1 v3 v5 v6 x2 x4 x8 hR hM hL h hh
      have := h rfl ι hR (by rw [e0]; exact hL) (Fr.refl _ _)
      rw [show i = n by omega]
      exact this
  | m + 1, i, s, f, ks, p, hi, hi0, hs0, hs1, hV, hp0, hp1 => by
    obtain ⟨p1, r1, v, ks1, i1, i2, i3, i4, i5, i6⟩ := j_literal (sc := sc) (tl := tl) hw hO htl (s := s) (by omega) hV p hp0 hp1
    by_cases hr : r1 = 0
    · obtain ⟨p2, r2, f2, ks2, k1, k2, k3, k4, k5, k6⟩ := j_literals hw hO htl hn m (i + 1) (s + 1) _ ks1 p1 (by omega) (by omega) (by omega) (by omega) i4 (by omega) i2
      have e1 : s + 1 + (m : Int) = s + (m + 1 : Nat) := by omega
      rw [e1] at k4
      refine ⟨p2, r2, f2, ks2, by omega, k2, k3, k4, ?_, ?_⟩
      · intro ι PA Q v1 v3 v4 v8 v9 x2 x6 hR hC hL h hh
        refine e_O_makeCommand_169 (bif_f (by omega) (s_fine (fun _ => bif_f (by omega) ?_) (fun e => absurd hR.2.2.1 e)))
        refine i5 ι PA _ _ hR hC hL (fun _ ι1 x1 y1 F1 => ⟨by omega, ?_⟩) (fun e => absurd hr e)
        exact k5 ι1 PA Q v1 v3 v4 v8 v9 x2 x6 x1 (hC.fr F1) y1 (fun e ι2 z1 z2 F2 => h e ι2 z1 (by rw [← e1]; exact z2) (F1.trans F2)) (fun e ι2 z1 z2 F2 => hh e ι2 z1 z2 (F1.trans F2))
      · intro ι PA Q v1 v3 v5 v6 x2 x4 x8 hR hM hL h hh
        refine e_M_readCoded_145 (bif_f (by omega) (i6 ι PA _ _ hR hM hL (fun _ ι1 x1 y1 F1 => ⟨by omega, ?_⟩) (fun e => absurd hr e)))
        exact k6 ι1 PA Q v1 v3 v5 v6 x2 x4 x8 x1 (hM.fr hO F1) y1 (fun e ι2 z1 z2 F2 => h e ι2 z1 (by rw [← e1]; exact z2) (F1.trans F2)) (fun e ι2 z1 z2 z3 F2 => hh e ι2 z1 z2 z3 (F1.trans F2))
    · refine ⟨p1, r1, fun _ => 0, ks1, i1, i2, i3, ⟨fun _ _ _ => ⟨show (-128 : Int) ≤ 0 by omega, show (0 : Int) < 128 by omega⟩, i4.2⟩, ?_, ?_⟩
      · intro ι PA Q v1 v3 v4 v8 v9 x2 x6 hR hC hL h hh
        refine e_O_makeCommand_169 (bif_f (by omega) (s_fine (fun _ => bif_f (by omega) ?_) (fun e => absurd hR.2.2.1 e)))
        refine i5 ι PA _ _ hR hC hL (fun e => absurd e hr) (fun e ι1 x1 y1 F1 => ⟨by omega, ?_⟩)
        have hr1 : ι1 0 0 3 ≠ 0 := by rw [x1.2.2.1]; exact hr
        have hK := hh e ι1 x1 y1 F1
        have go : ∀ k : Int, bW sc 87 196 [br 8 0, v1, bi x2, v3, v4, bi n, bi x6, bi k, v8, v9] [] ι1 Q := fun k => e_O_makeCommand_196 (bif_i (fun _ => hK) (fun _ => s_fine (fun e => absurd e hr1) (fun _ => bif_t rfl hK)))
        exact e_O_makeCommand_169 (bif_i (fun _ => go _) (fun _ => s_fine (fun e => absurd e hr1) (fun _ => bif_t rfl (go _))))
      · intro ι PA Q v1 v3 v5 v6 x2 x4 x8 hR hM hL h hh
        exact e_M_readCoded_145 (bif_f (by omega) (i6 ι PA _ _ hR hM hL (fun e => absurd e hr) (fun e ι1 x1 y1 y2 F1 => hh e ι1 x1 y1 y2 F1)))
end Command
