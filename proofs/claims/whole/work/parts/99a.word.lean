/-! the commands: a word of the table -/
section Word
variable {sc : bm_Sc} {β : Int → Int} {lim : Int} {W : bm_S} {s : Int} {f : Int → Int} {ks : Int → Int → Int} {rg PA : Int → Int}
def wbits (v : Int) : Int := if v ≤ 1 then 0 else if v ≤ 2 then 1 else if v ≤ 4 then 2 else if v ≤ 8 then 3 else if v ≤ 16 then 4 else 5
theorem wbits_rg (v : Int) : 0 ≤ wbits v ∧ wbits v ≤ 5 := by unfold wbits; grind
theorem wbits_le {v b : Int} (hv : v ≤ 32) (hb : 0 ≤ b ∧ b ≤ 5) : v ≤ 1 * bm_p2 b ↔ wbits v ≤ b := by
  have : b = 0 ∨ b = 1 ∨ b = 2 ∨ b = 3 ∨ b = 4 ∨ b = 5 := by omega
  have e0 : bm_p2 0 = 1 := rfl
  have e1 : bm_p2 1 = 2 := rfl
  have e2 : bm_p2 2 = 4 := rfl
  have e3 : bm_p2 3 = 8 := rfl
  have e4 : bm_p2 4 = 16 := rfl
  have e5 : bm_p2 5 = 32 := rfl
  unfold wbits
  rcases this with rfl | rfl | rfl | rfl | rfl | rfl
  · rw [e0]; grind
  · rw [e1]; grind
  · rw [e2]; grind
  · rw [e3]; grind
  · rw [e4]; grind
  · rw [e5]; grind
theorem s_bitsFor4 {ι : bm_S} {K : Int → bm_S → Prop} {H : Nat × Int → bm_S → Prop} {n v : Int} (hv : v = if 4 ≤ n ∧ n ≤ 10 then ι 65 0 n else 0) (hv1 : v ≤ 32) (h : K (wbits v) ι) : ∀ (m : Nat) (k b : Int), k = 5 - m → 0 ≤ k → b = min k (wbits v) → bW sc 113 4 [br 10 0, bi n, bi b, bi k] [] ι (bk1 K H)
  | 0, k, b, e, h0, hb => e_W_bitsFor_4 (bif_t (by omega) (K_of h (by have := wbits_rg v; omega)))
  | m + 1, k, b, e, h0, hb => by
    have hr := wbits_rg v
    have hp := p2_5 (v := b) (by omega)
    have hi := wbits_le (b := b) hv1 (by omega)
    refine e_W_bitsFor_4 (bif_f (by omega) ⟨⟨by omega, by omega⟩, s_manyOf ?_⟩)
    rw [← hv]
    exact bif_i (fun c => ⟨by omega, s_bitsFor4 hv hv1 h m (k + 1) b (by omega) (by omega) (by have := hi.mp c; omega)⟩) (fun c => ⟨by omega, by omega, s_bitsFor4 hv hv1 h m (k + 1) (b + 1) (by omega) (by omega) (by have : ¬ wbits v ≤ b := fun q => c (hi.mpr q); omega)⟩)
theorem s_bitsFor {ι : bm_S} {K : Int → bm_S → Prop} {H : Nat × Int → bm_S → Prop} {n v : Int} (hv : v = if 4 ≤ n ∧ n ≤ 10 then ι 65 0 n else 0) (hv1 : v ≤ 32) (h : K (wbits v) ι) : bC sc 113 [br 10 0, bi n] ι (bk1 K H) := e_W_bitsFor_0 (s_bitsFor4 hv hv1 h 5 0 0 (by omega) (by omega) (by have := wbits_rg v; omega))
theorem m_bitsOf2 {ι : bm_S} {K : Int → bm_S → Prop} {H : Nat × Int → bm_S → Prop} {n v : Int} (hn : 4 ≤ n ∧ n ≤ 10) (hv : v = ι 69 0 n) (hv1 : v ≤ 32) (h : K (wbits v) ι) : ∀ (m : Nat) (b : Int), b = wbits v - m → 0 ≤ b → bW sc 166 2 [br 13 0, bi n, bi b] [] ι (bk1 K H)
  | 0, b, e, h0 => by
    have hr := wbits_rg v
    have hp := p2_5 (v := b) (by omega)
    have hi := wbits_le (b := b) hv1 (by omega)
    exact e_M_bitsOf_2 ⟨⟨by omega, by omega⟩, by omega, bif_t (by rw [← hv]; exact hi.mpr (by omega)) (K_of h (by omega))⟩
  | m + 1, b, e, h0 => by
    have hr := wbits_rg v
    have hp := p2_5 (v := b) (by omega)
    have hi := wbits_le (b := b) hv1 (by omega)
    exact e_M_bitsOf_2 ⟨⟨by omega, by omega⟩, by omega, bif_f (by rw [← hv]; exact fun q => by have := hi.mp q; omega) ⟨by omega, m_bitsOf2 hn hv hv1 h m (b + 1) (by omega) (by omega)⟩⟩
theorem m_bitsOf {ι : bm_S} {K : Int → bm_S → Prop} {H : Nat × Int → bm_S → Prop} {n v : Int} (hn : 4 ≤ n ∧ n ≤ 10) (hv : v = ι 69 0 n) (hv1 : v ≤ 32) (h : K (wbits v) ι) : bC sc 166 [br 13 0, bi n] ι (bk1 K H) := e_M_bitsOf_0 (m_bitsOf2 hn hv hv1 h (wbits v).toNat 0 (by have := wbits_rg v; omega) (by omega))
/-- what a word adds -/
def wap (f : Int → Int) (s : Int) (g : Int → Int) (n wi ch : Int) : Int → Int := fun k => if k < s then f k else chb g n wi ch (k - s)
def wv (c : Int → Int) (n : Int) : Int := if 4 ≤ n ∧ n ≤ 10 then c n else 0
def wi (c : Int → Int) (n w : Int) : Int := w % bm_p2 (wbits (wv c n))
def wc (c : Int → Int) (n w : Int) : Int := w / bm_p2 (wbits (wv c n))
/-- the rule that a word breaks -/
def wr (c : Int → Int) (n w room : Int) : Int := if 4 ≤ n ∧ n ≤ 10 ∧ wi c n w < c n then (if wc c n w < 24 then (if chs n (wc c n w) ≤ room then 0 else 8) else 11) else 10
theorem chs_rg {n c : Int} (hn : 4 ≤ n ∧ n ≤ 10) (hc : 0 ≤ c ∧ c < 24) : 2 ≤ chs n c ∧ chs n c ≤ 12 := by
  have h1 := csz_rg (how := c % 6) hn
  have h2 := asz_rg (a := c / 6) (by omega)
  unfold chs
  omega
theorem s_word119 {Q : bm_O → bm_S → Prop} {n wi ch x p r pc wn en : Int} {g c : Int → Int} {v2 v3 : bm_V} (hO : CO pc wn g c) (hn : 4 ≤ n ∧ n ≤ 10) (hwi : 0 ≤ wi ∧ wi < 32) (hch : 0 ≤ ch ∧ ch < 24) (hx : x ≤ 20) (hs : 0 ≤ s) : ∀ (m : Nat) (i : Int) (ι : bm_S), i = x - m → 0 ≤ i → s + x ≤ 4096 → cR ι β lim p r → CC ι pc wn en g c → LC ι W (s + i) (wap f s g n wi ch) ks rg PA → (∀ ι' : bm_S, cR ι' β lim p r → LC ι' W (s + x) (wap f s g n wi ch) ks rg PA → Fr fLp ι ι' → bW sc 92 119 [br 8 0, bi n, v2, v3, bi wi, bi ch, bi x, bi x] [] ι' Q) → bW sc 92 119 [br 8 0, bi n, v2, v3, bi wi, bi ch, bi x, bi i] [] ι Q
  | 0, i, ι, e, h0, hs1, hR, hC, hL, h => by
    have := h ι hR (by rw [show s + i = s + x by omega] at hL; exact hL) (Fr.refl _ _)
    rw [show i = x by omega]; exact this
  | m + 1, i, ι, e, h0, hs1, hR, hC, hL, h => by
    have hb : ∀ k, 0 ≤ k → k < 2240 → -128 ≤ ι 64 0 k ∧ ι 64 0 k < 128 := fun k x y => by rw [hC.2.2.2.1 k x y]; exact hO.2.2.1 k x y
    refine e_O_makeWord_119 (bif_f (by omega) (s_changedByte hn hwi hch (by omega) hb ?_))
    rw [chb_ext hn hwi hch (fun k x y => hC.2.2.2.1 k x y)]
    refine s_put (by omega) hR hL (fun ι1 x1 x2 F1 => ⟨by omega, ?_⟩)
    rw [by_m, by_id (chb_rg hn hwi hch hO.2.2.1)] at x2
    refine s_word119 hO hn hwi hch hx hs m (i + 1) ι1 (by omega) (by omega) hs1 x1 (hC.fr F1) ?_ (fun ι2 y1 y2 F2 => h ι2 y1 y2 (F1.trans F2))
    rw [show s + (i + 1) = s + i + 1 by omega]
    refine x2.ext (fun k z1 z2 => ?_)
    unfold fs wap
    by_cases c1 : k = s + i
    · rw [if_pos c1, if_neg (by omega), c1, show s + i - s = i by omega]
    · rw [if_neg c1]
theorem m_word102 {Q : bm_O → bm_S → Prop} {n wi ch x p : Int} {g : Int → Int} {v1 v2 v3 v4 v5 : bm_V} (hb : ∀ k, 0 ≤ k → k < 2240 → -128 ≤ g k ∧ g k < 128) (hn : 4 ≤ n ∧ n ≤ 10) (hwi : 0 ≤ wi ∧ wi < 32) (hch : 0 ≤ ch ∧ ch < 24) (hx : x ≤ 20) (hs : 0 ≤ s) : ∀ (m : Nat) (i : Int) (ι : bm_S), i = x - m → 0 ≤ i → s + x ≤ 4096 → mR ι β lim p → ι 13 0 10 = x → (∀ i, 0 ≤ i → i < x → ι 70 0 i = chb g n wi ch i) → LM ι W (s + i) (wap f s g n wi ch) ks rg PA → (∀ ι' : bm_S, mR ι' β lim p → ι' 13 0 10 = x → LM ι' W (s + x) (wap f s g n wi ch) ks rg PA → Fr gLp ι ι' → bW sc 218 102 [br 13 0, v1, v2, v3, v4, v5, bi x] [] ι' Q) → bW sc 218 102 [br 13 0, v1, v2, v3, v4, v5, bi i] [] ι Q
  | 0, i, ι, e, h0, hs1, hR, h10, h70, hL, h => by
    have := h ι hR h10 (by rw [show s + i = s + x by omega] at hL; exact hL) (Fr.refl _ _)
    rw [show i = x by omega]; exact this
  | m + 1, i, ι, e, h0, hs1, hR, h10, h70, hL, h => by
    refine e_M_tellWord_102 ?_
    rw [h10, h70 i (by omega) (by omega)]
    refine bif_f (by omega) ⟨by omega, e_M_putOut_0 ?_⟩
    rw [hL.1, by_by, by_id (chb_rg hn hwi hch hb)]
    have hF : Fr (fun t i j => t = 67 ∨ t = 13 ∧ j = 6) ι (up (up ι 67 0 (s + i) (chb g n wi ch i)) 13 0 6 (s + i + 1)) := ((Fr.refl _ _).u (by omega)).u (by omega)
    refine ⟨by omega, by omega, ⟨by omega, ?_⟩⟩
    refine m_word102 hb hn hwi hch hx hs m (i + 1) _ (by omega) (by omega) hs1 (hR.fr hF (fun j => by omega) (by rw [hF 13 0 16 (by omega)]; exact hR.1)) (by rw [hF 13 0 10 (by omega)]; exact h10) (fun k x y => by rw [hF 70 0 k (by omega)]; exact h70 k x y) ⟨by simp (disch := omega) only [up_s, up_k, up_j, up_i]; omega, fun k x y => ?_, fun q x y => ?_, fun k x y => by rw [hF 77 0 (3 - k) (by omega)]; exact hL.2.2.2.1 k x y, hL.2.2.2.2.fr hF (fun j => by omega)⟩ (fun ι2 y1 y10 y2 F2 => h ι2 y1 y10 y2 ((hF.wide fun t i j q => by omega).trans F2))
    · rw [up_k (by decide), up_at]
      by_cases c1 : k = s + i
      · rw [if_pos c1]; unfold wap; rw [if_neg (by omega), c1, show s + i - s = i by omega]
      · rw [if_neg c1]; exact hL.2.1 k x (by omega)
    · obtain ⟨b1, b2, b3, b4⟩ := hL.2.2.1 q x y
      exact ⟨by rw [hF 78 0 q (by omega)]; exact b1, by rw [hF 79 0 q (by omega)]; exact b2, by rw [hF 80 0 q (by omega)]; exact b3, by rw [hF 81 0 q (by omega)]; exact b4⟩
variable {pc wn en n w p : Int} {g c : Int → Int}
theorem wi_rg (hc : ∀ n, 4 ≤ n → n ≤ 10 → 0 ≤ c n ∧ c n ≤ 32) (hw : 0 ≤ w) : wv c n ≤ 32 ∧ (bm_p2 (wbits (wv c n)) = 1 ∨ bm_p2 (wbits (wv c n)) = 2 ∨ bm_p2 (wbits (wv c n)) = 4 ∨ bm_p2 (wbits (wv c n)) = 8 ∨ bm_p2 (wbits (wv c n)) = 16 ∨ bm_p2 (wbits (wv c n)) = 32) ∧ (0 ≤ wi c n w ∧ wi c n w < 32) ∧ 0 ≤ wc c n w := by
  have h1 : wv c n ≤ 32 := by
    unfold wv
    by_cases h : 4 ≤ n ∧ n ≤ 10
    · rw [if_pos h]; exact (hc n h.1 h.2).2
    · rw [if_neg h]; omega
  have hr := wbits_rg (wv c n)
  have h2 := p2_5 (v := wbits (wv c n)) (by omega)
  refine ⟨h1, h2, ?_, ?_⟩
  · unfold wi; rcases h2 with e | e | e | e | e | e <;> rw [e] <;> omega
  · unfold wc; rcases h2 with e | e | e | e | e | e <;> rw [e] <;> omega
/-- comp, up to the size of the changed word -/
theorem s_word {ι : bm_S} {K : bm_S → Prop} {H : Nat × Int → bm_S → Prop} {r0 : Int} (hO : CO pc wn g c) (hs : 0 ≤ s ∧ s ≤ 4096) (hen : 0 ≤ en ∧ en ≤ 4096) (hw : 0 ≤ w ∧ w ≤ 1000000000) (hB : PB PA pc (s + 1)) (hR : cR ι β lim p r0) (hC : CC ι pc wn en g c) (hs1 : ι 2 1 1 = s) (hL : r0 = 0 → LC ι W s f ks rg PA)
    (h0 : r0 = 0 → wr c n w (en - s) = 0 → ∀ ι' : bm_S, cR ι' β lim p 0 → LC ι' W (s + chs n (wc c n w)) (wap f s g n (wi c n w) (wc c n w)) ks rg (ntp PA pc 11) → Fr fLp ι ι' → K ι') (h1 : r0 = 0 → wr c n w (en - s) ≠ 0 → K (up ι 0 0 3 (wr c n w (en - s)))) (h2 : r0 ≠ 0 → K ι) : bC sc 92 [br 8 0, bi n, bi w] ι (bk0 K H) := by
  obtain ⟨k1, k2, k3, k4⟩ := wi_rg (n := n) hO.2.2.2 hw.1
  have hbr := wbits_rg (wv c n)
  have ev : wv c n = if 4 ≤ n ∧ n ≤ 10 then ι 65 0 n else 0 := by
    unfold wv
    by_cases h : 4 ≤ n ∧ n ≤ 10
    · rw [if_pos h, if_pos h, hC.2.2.2.2 n h.1 h.2]
    · rw [if_neg h, if_neg h]
  -- a rule is broken, or was
  have bad : ∀ (x : Int) (N : bm_S → Prop), (r0 = 0 → wr c n w (en - s) = x ∧ x ≠ 0) → bC sc 3 [br 0 0, bi x] ι (bk0 (fun ι2 => bC sc 2 [br 0 0] ι2 (bk1 (fun r3 ι3 => if r3 = (0 : Int) then K ι3 else N ι3) H)) H) := fun x N hx => by
    refine s_broken (fun e => s_fine (fun e1 => ?_) (fun _ => bif_t rfl ?_)) (fun e => s_fine (fun e1 => absurd e1 e) (fun _ => bif_t rfl (h2 (fun e1 => e (hR.2.2.1.trans e1)))))
    · rw [up_s] at e1; exact absurd e1 (hx (hR.2.2.1.symm.trans e)).2
    · obtain ⟨a, b⟩ := hx (hR.2.2.1.symm.trans e)
      have := h1 (hR.2.2.1.symm.trans e) (by rw [a]; exact b)
      rw [a] at this
      exact this
  refine e_O_makeWord_0 (s_bitsFor ev k1 ⟨⟨by omega, by omega⟩, by omega, by omega, s_manyOf ?_⟩)
  rw [← ev, band_mod (by omega)]
  show if wi c n w < wv c n then _ else _
  refine bif_i (fun c1 => ?_) (fun c1 => ?_)
  · have hn : 4 ≤ n ∧ n ≤ 10 := by
      by_cases h : 4 ≤ n ∧ n ≤ 10
      · exact h
      · unfold wv at c1; rw [if_neg h] at c1; omega
    have c2 : wi c n w < c n := by unfold wv at c1; rw [if_pos hn] at c1; exact c1
    have e1 : wr c n w (en - s) = if wc c n w < 24 then (if chs n (wc c n w) ≤ en - s then 0 else 8) else 11 := by unfold wr; rw [if_pos ⟨hn.1, hn.2, c2⟩]
    show if wc c n w < 24 then _ else _
    refine bif_i (fun c3 => ?_) (fun c3 => ?_)
    · have hz := chs_rg hn ⟨k4, c3⟩
      refine s_changedSize hn ⟨k4, c3⟩ ?_
      rw [hC.2.2.1, hs1]
      refine ⟨by omega, bif_i (fun c4 => ?_) (fun c4 => ?_)⟩
      · have c4 : chs n (wc c n w) ≤ en - s := c4
        have e2 : wr c n w (en - s) = 0 := by rw [e1, if_pos c3, if_pos c4]
        refine s_fine (fun e => bif_f (by omega) (s_changedSize hn ⟨k4, c3⟩ ?_)) (fun e => bif_t rfl (h2 (fun e1 => e (hR.2.2.1.trans e1))))
        have e3 := hR.2.2.1.symm.trans e
        rw [e3] at hR
        show bW sc 92 119 [br 8 0, bi n, bi w, bi (wbits (wv c n)), bi (wi c n w), bi (wc c n w), bi (chs n (wc c n w)), bi 0] [] ι _
        refine s_word119 (f := f) (W := W) (ks := ks) (rg := rg) (PA := PA) hO hn k3 ⟨k4, c3⟩ (by omega) hs.1 (chs n (wc c n w)).toNat 0 ι (by omega) (by omega) (by omega) hR hC ?_ (fun ι1 x1 x2 F1 => e_O_makeWord_119 (bif_t (by omega) (s_more (by omega) (hC.fr F1).1 hO.1 hB (by omega) x1 x2 (fun ι2 y1 y2 F2 => h0 e3 e2 ι2 y1 y2 (F1.trans F2)))))
        rw [show s + 0 = s by omega]
        exact (hL e3).ext (fun k x y => by unfold wap; rw [if_pos y])
      · have c4 : ¬ chs n (wc c n w) ≤ en - s := c4
        exact bad 8 _ (fun _ => ⟨by rw [e1, if_pos c3, if_neg c4], by omega⟩)
    · exact bad 11 _ (fun _ => ⟨by rw [e1, if_neg c3], by omega⟩)
  · refine bad 10 _ (fun _ => ⟨?_, by omega⟩)
    unfold wr
    rw [if_neg]
    intro q
    apply c1
    unfold wv
    rw [if_pos ⟨q.1, q.2.1⟩]
    exact q.2.2
theorem m_word {ι : bm_S} {Q : bm_O → bm_S → Prop} (hO : CO pc wn g c) (hs : 0 ≤ s ∧ s ≤ en) (hen : en ≤ 4096) (hw : 0 ≤ w ∧ w ≤ 1000000000) (hB : PB PA pc (s + 1)) (hR : mR ι β lim p) (hC : CM ι pc wn g c) (hL : LM ι W s f ks rg PA)
    (h0 : wr c n w (en - s) = 0 → ∀ ι' : bm_S, mR ι' β lim p → LM ι' W (s + chs n (wc c n w)) (wap f s g n (wi c n w) (wc c n w)) ks rg (ntp PA pc 11) → Fr gLp ι ι' → Q (.inl none) ι') (h1 : wr c n w (en - s) ≠ 0 → ∀ ι' : bm_S, mR ι' β lim p → ι' 12 0 6 = wr c n w (en - s) → EM ι' rg PA → Fr gLp ι ι' → bq Q (12, 0) ι') : bC sc 218 [br 13 0, bi w, bi n, bi en] ι Q := by
  obtain ⟨k1, k2, k3, k4⟩ := wi_rg (n := n) hO.2.2.2 hw.1
  have hbr := wbits_rg (wv c n)
  have bad : ∀ (x : Int) (ι1 : bm_S) (N : bm_S → Prop), wr c n w (en - s) = x → x ≠ 0 → Fr (fun t i j => t = 70 ∨ t = 13 ∧ j = 10) ι ι1 → bC sc 152 [br 13 0, bi x] ι1 (bk0 N (bq Q)) := fun x ι1 N e hx hF => by
    have hF1 : Fr gLp ι (up ι1 12 0 6 x) := (hF.wide fun t i j q => by omega).u (by omega)
    have hF2 : Fr (fun t i j => t = 70 ∨ t = 13 ∧ j = 10 ∨ t = 12) ι (up ι1 12 0 6 x) := (hF.wide fun t i j q => by omega).u (by omega)
    exact m_fail (h1 (by omega) _ (hR.fr hF2 (fun j => by omega) (by rw [hF2 13 0 16 (by omega)]; exact hR.1)) (by simp (disch := omega) only [up_s, up_k, up_j, up_i]; omega) (hL.em.fr hF2 (fun j => by omega)) hF1)
  refine e_M_tellWord_0 ?_
  by_cases hn : 4 ≤ n ∧ n ≤ 10
  · have ev : wv c n = ι 69 0 n := by unfold wv; rw [if_pos hn, hC.2.2.2 n hn.1 hn.2]
    have ev1 : wv c n = c n := by unfold wv; rw [if_pos hn]
    refine bif_f (by rw [if_pos hn]; omega) (e_M_tellWord_20 (m_bitsOf hn ev k1 ⟨⟨by omega, by omega⟩, by omega, by omega, ?_⟩))
    rw [ev1] at k2 hbr
    rw [← ev, ev1, band_mod (by omega)]
    show if w % bm_p2 (wbits (c n)) < c n then _ else _
    have e0 : wi c n w = w % bm_p2 (wbits (c n)) := by unfold wi; rw [ev1]
    have e00 : wc c n w = w / bm_p2 (wbits (c n)) := by unfold wc; rw [ev1]
    rw [← e0, ← e00]
    refine bif_i (fun c2 => ?_) (fun c2 => ?_)
    · have e1 : wr c n w (en - s) = if wc c n w < 24 then (if chs n (wc c n w) ≤ en - s then 0 else 8) else 11 := by unfold wr; rw [if_pos ⟨hn.1, hn.2, c2⟩]
      refine ⟨by omega, bif_i (fun c3 => ?_) (fun c3 => ?_)⟩
      · have c3 : wc c n w < 24 := by omega
        have hz := chs_rg hn ⟨k4, c3⟩
        have hb : ∀ k, 0 ≤ k → k < 2240 → -128 ≤ ι 68 0 k ∧ ι 68 0 k < 128 := fun k x y => by rw [hC.2.2.1 k x y]; exact hO.2.2.1 k x y
        refine ⟨by omega, m_change hn k3 ⟨k4, c3⟩ hb (fun ι1 x1 x2 F1 => ?_)⟩
        have F1' : Fr gLp ι ι1 := F1.wide fun t i j q => by omega
        have R1 : mR ι1 β lim p := hR.fr F1 (fun j => by omega) (by rw [F1 13 0 16 (by omega)]; exact hR.1)
        rw [F1 13 0 6 (by omega), hL.1, x1]
        refine ⟨by omega, bif_i (fun c4 => ?_) (fun c4 => ?_)⟩
        · have e2 : wr c n w (en - s) = 0 := by rw [e1, if_pos c3, if_pos c4]
          refine m_word102 (f := f) (W := W) (ks := ks) (rg := rg) (PA := PA) (g := g) hO.2.2.1 hn k3 ⟨k4, c3⟩ (x := chs n (wc c n w)) (by omega) hs.1 (chs n (wc c n w)).toNat 0 ι1 (by omega) (by omega) (by omega) R1 x1 (fun i a b => by rw [x2 i a b]; exact chb_ext hn k3 ⟨k4, c3⟩ (fun k x y => hC.2.2.1 k x y)) ?_ (fun ι2 y1 y10 y2 F2 => e_M_tellWord_102 (bif_t (by omega) (m_more (by omega) ((hC.fr F1').fr F2).1 hB (by omega) y1 y2 (fun ι3 z1 z2 F3 => h0 e2 ι3 z1 z2 ((F1'.trans F2).trans F3)))))
          rw [show s + 0 = s by omega]
          refine LM.ext (f := f) ⟨by rw [F1 13 0 6 (by omega)]; exact hL.1, fun k x y => by rw [F1 67 0 k (by omega)]; exact hL.2.1 k x y, fun q x y => ?_, fun i x y => by rw [F1 77 0 (3 - i) (by omega)]; exact hL.2.2.2.1 i x y, hL.2.2.2.2.fr F1 (fun j => by omega)⟩ (fun k x y => by unfold wap; rw [if_pos y])
          obtain ⟨b1, b2, b3, b4⟩ := hL.2.2.1 q x y
          exact ⟨by rw [F1 78 0 q (by omega)]; exact b1, by rw [F1 79 0 q (by omega)]; exact b2, by rw [F1 80 0 q (by omega)]; exact b3, by rw [F1 81 0 q (by omega)]; exact b4⟩
        · exact bad 8 ι1 _ (by rw [e1, if_pos c3, if_neg c4]) (by omega) F1
      · exact bad 11 ι _ (by rw [e1, if_neg (by omega)]) (by omega) (Fr.refl _ _)
    · exact bad 10 ι _ (by unfold wr; rw [if_neg (fun q => c2 q.2.2)]) (by omega) (Fr.refl _ _)
  · exact bif_t (by rw [if_neg hn]) (bad 10 ι _ (by unfold wr; rw [if_neg (fun q => hn ⟨q.1, q.2.1⟩)]) (by omega) (Fr.refl _ _))
end Word
