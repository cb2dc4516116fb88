/-! pack: the other finds lengths -/
section MLen
variable {sc : bm_Sc} {a n st : Int} {w o : Int → Int}
theorem m_dep190 {Q : bm_O → bm_S → Prop} {g s c0 : Int} {v3 v4 : bm_V} {ι : bm_S} (ha : a ≤ 704) (hst : 0 ≤ st ∧ st + a ≤ 18000) (hn : 2 ≤ n ∧ n ≤ a) (hO : OR w a n o) (hs : 0 ≤ s ∧ s < a) (h93 : ι 93 0 s = w s) (hws : 0 < w s) (h91 : ∀ c, 0 ≤ c → c < 2 * n - 2 → ι 91 0 (nu o a n c) = nu o a n (hP (fun k => w (o k)) n c)) (h91r : ι 91 0 (nu o a n (2 * n - 2)) = -1)
    (h : ∀ v7 v8 : bm_V, bW sc 239 177 [br 13 0, bi st, bi a, v3, v4, bi (max g (hD (fun k => w (o k)) n c0)), bi (s + 1), v7, v8] [] (up ι 71 0 (st + s) (hD (fun k => w (o k)) n c0)) Q) : ∀ (m : Nat) (c d : Int), 2 * n - 2 - c ≤ m → 0 ≤ c → c ≤ 2 * n - 2 → 0 ≤ d → d + hD (fun k => w (o k)) n c = hD (fun k => w (o k)) n c0 → bW sc 239 190 [br 13 0, bi st, bi a, v3, v4, bi g, bi s, bi d, bi (nu o a n c)] [] ι Q := by
  have hV := hO.VR hn.1
  have hbd : ∀ k, hD (fun k => w (o k)) n k ≤ 2 * n := fun k => by have := hdp_b (hP (fun k => w (o k)) n) (2 * n - 2) (2 * n).toNat k; unfold hD; omega
  have fin : bW sc 239 190 [br 13 0, bi st, bi a, v3, v4, bi g, bi s, bi (hD (fun k => w (o k)) n c0), bi (nu o a n (2 * n - 2))] [] ι Q := by
    have r := nu_rg hn hO (c := 2 * n - 2) (by omega)
    have hh := h (bi (hD (fun k => w (o k)) n c0)) (bi (nu o a n (2 * n - 2)))
    refine e_M_joinAll_190 ?_
    rw [h93, h91r]
    refine ⟨by omega, bif_f (by omega) ⟨by omega, bif_t (by omega) ⟨by omega, by omega, ?_⟩⟩⟩
    refine bif_i (fun z => ⟨by omega, ?_⟩) (fun z => ⟨by omega, ?_⟩)
    · rw [show max g (hD (fun k => w (o k)) n c0) = g by omega] at hh; exact hh
    · rw [show max g (hD (fun k => w (o k)) n c0) = hD (fun k => w (o k)) n c0 by omega] at hh; exact hh
  intro m
  induction m with
  | zero =>
    intro c d hm hc0 hc1 hd0 hd
    have ec : c = 2 * n - 2 := by omega
    rw [ec, hD_0 hV (by omega)] at hd
    rw [ec, show d = hD (fun k => w (o k)) n c0 by omega]
    exact fin
  | succ m ih =>
    intro c d hm hc0 hc1 hd0 hd
    have r := nu_rg hn hO hc0
    by_cases z : c < 2 * n - 2
    · have hp := hP_gt hV hc0 z
      have hs1 := hD_s hV hc0 z
      have rp := nu_rg hn hO (c := hP (fun k => w (o k)) n c) (by omega)
      have b0 := hbd c0
      have dn : 0 ≤ hD (fun k => w (o k)) n (hP (fun k => w (o k)) n c) := hdp_0 _ _ _ _
      refine e_M_joinAll_190 ?_
      rw [h93, h91 c hc0 z]
      exact ⟨by omega, bif_f (by omega) ⟨by omega, bif_f (by omega) ⟨by omega, by omega, ih _ (d + 1) (by omega) (by omega) hp.2.1 (by omega) (by omega)⟩⟩⟩
    · have ec : c = 2 * n - 2 := by omega
      rw [ec, hD_0 hV (by omega)] at hd
      rw [ec, show d = hD (fun k => w (o k)) n c0 by omega]
      exact fin
abbrev gLn (st a : Int) (t : Nat) (_ j : Int) : Prop := t = 90 ∨ t = 91 ∨ t = 92 ∨ t = 71 ∧ st ≤ j ∧ j < st + a
theorem m_dep177 {K : Int → bm_S → Prop} {H : Nat × Int → bm_S → Prop} {v3 v4 : bm_V} (ha : a ≤ 704) (hst : 0 ≤ st ∧ st + a ≤ 18000) (hn : 2 ≤ n ∧ n ≤ a) (hO : OR w a n o) : ∀ (m s : Nat) (g : Int) (ι : bm_S) (v7 v8 : bm_V), (s : Int) + m = a → 0 ≤ g → (∀ k, 0 ≤ k → k < a → ι 93 0 k = w k) → (∀ c, 0 ≤ c → c < 2 * n - 2 → ι 91 0 (nu o a n c) = nu o a n (hP (fun k => w (o k)) n c)) → ι 91 0 (nu o a n (2 * n - 2)) = -1 →
    (∀ c, 0 ≤ c → c < n → o c < (s : Int) → ι 71 0 (st + o c) = hD (fun k => w (o k)) n c ∧ hD (fun k => w (o k)) n c ≤ g) → (∀ k, 0 ≤ k → k < (s : Int) → w k ≤ 0 → ι 71 0 (st + k) = 0) → (g = 0 ∨ ∃ c, 0 ≤ c ∧ c < n ∧ hD (fun k => w (o k)) n c = g) →
    (∀ (ι' : bm_S) (g : Int), (∀ c, 0 ≤ c → c < n → ι' 71 0 (st + o c) = hD (fun k => w (o k)) n c ∧ hD (fun k => w (o k)) n c ≤ g) → (∀ k, 0 ≤ k → k < a → w k ≤ 0 → ι' 71 0 (st + k) = 0) → (g = 0 ∨ ∃ c, 0 ≤ c ∧ c < n ∧ hD (fun k => w (o k)) n c = g) → Fr (gLn st a) ι ι' → K g ι') → bW sc 239 177 [br 13 0, bi st, bi a, v3, v4, bi g, bi (s : Int), v7, v8] [] ι (bk1 K H) := by
  intro m
  induction m with
  | zero =>
    intro s g ι v7 v8 hs hg h93 h91 h91r hd hz hx h
    exact e_M_joinAll_177 (bif_t (by omega) (h ι g (fun c x y => hd c x y (by have := (hO.1.1 c x y).2.1; omega)) (fun k x y => hz k x (by omega)) hx (Fr.refl _ _)))
  | succ m ih =>
    intro s g ι v7 v8 hs hg h93 h91 h91r hd hz hx h
    refine e_M_joinAll_177 (bif_f (by omega) ?_)
    by_cases z : 0 < w s
    · obtain ⟨c0, p0, p1, p2⟩ := hO.1.2.2 s (by omega) (by omega) z
      have hD0 : 0 ≤ hD (fun k => w (o k)) n c0 := hdp_0 _ _ _ _
      have := m_dep190 (sc := sc) (Q := bk1 K H) (g := g) (s := s) (c0 := c0) (v3 := v3) (v4 := v4) (ι := ι) ha hst hn hO (by omega) (h93 s (by omega) (by omega)) z h91 h91r (fun v7 v8 => ?_) (2 * n - 2 - c0).toNat c0 0 (by omega) p0 (by omega) (by omega) (by omega)
      · rw [nu_l p1, p2] at this; exact this
      · have F1 : Fr (gLn st a) ι (up ι 71 0 (st + (s : Int)) (hD (fun k => w (o k)) n c0)) := (Fr.refl _ _).u (by omega)
        rw [show (s : Int) + 1 = ((s + 1 : Nat) : Int) by omega]
        refine ih (s + 1) _ _ v7 v8 (by omega) (by omega) (fun k x y => by rw [up_k (by decide)]; exact h93 k x y) (fun c x y => by rw [up_k (by decide)]; exact h91 c x y) (by rw [up_k (by decide)]; exact h91r) (fun c x y q => ?_) (fun k x y q => ?_) ?_ (fun ι' g b1 b2 b3 F2 => h ι' g b1 b2 b3 (F1.trans F2))
        · by_cases e : o c = (s : Int)
          · have ecc := hO.1.2.1 c c0 x y p0 p1 (by rw [e, p2])
            rw [e, up_s, ecc]; omega
          · rw [up_j (by omega)]; have := hd c x y (by omega); omega
        · rw [up_j (by have : k ≠ (s : Int) := fun e => by rw [e] at q; omega
                       omega)]
          exact hz k x (by have : k ≠ (s : Int) := fun e => by rw [e] at q; omega
                           omega) q
        · by_cases e : hD (fun k => w (o k)) n c0 ≤ g
          · rw [show max g (hD (fun k => w (o k)) n c0) = g by omega]; exact hx
          · rw [show max g (hD (fun k => w (o k)) n c0) = hD (fun k => w (o k)) n c0 by omega]; exact Or.inr ⟨c0, p0, p1, rfl⟩
    · have F1 : Fr (gLn st a) ι (up ι 71 0 (st + (s : Int)) 0) := (Fr.refl _ _).u (by omega)
      refine e_M_joinAll_190 ?_
      rw [h93 s (by omega) (by omega)]
      refine ⟨by omega, bif_t (by omega) ⟨by omega, by omega, bif_t hg ⟨by omega, ?_⟩⟩⟩
      rw [show (s : Int) + 1 = ((s + 1 : Nat) : Int) by omega]
      refine ih (s + 1) _ _ _ _ (by omega) hg (fun k x y => by rw [up_k (by decide)]; exact h93 k x y) (fun c x y => by rw [up_k (by decide)]; exact h91 c x y) (by rw [up_k (by decide)]; exact h91r) (fun c x y q => ?_) (fun k x y q => ?_) hx (fun ι' g b1 b2 b3 F2 => h ι' g b1 b2 b3 (F1.trans F2))
      · have e : o c ≠ (s : Int) := fun e => by have := (hO.1.1 c x y).2.2; rw [e] at this; exact z this
        rw [up_j (by omega)]; exact hd c x y (by omega)
      · by_cases e : k = (s : Int)
        · rw [e, up_s]
        · rw [up_j (by omega)]; exact hz k x (by omega) q
theorem m_joinA {ι : bm_S} {K : Int → bm_S → Prop} {H : Nat × Int → bm_S → Prop} (ha : a ≤ 704) (hst : 0 ≤ st ∧ st + a ≤ 18000) (hn : 2 ≤ n ∧ n ≤ a) (hO : OR w a n o) (hS : sm (fun k => w (o k)) 0 n ≤ 1000000) (h93 : ∀ k, 0 ≤ k → k < a → ι 93 0 k = w k)
    (h : ∀ (ι' : bm_S) (g : Int), (∀ c, 0 ≤ c → c < n → ι' 71 0 (st + o c) = hD (fun k => w (o k)) n c ∧ hD (fun k => w (o k)) n c ≤ g) → (∀ k, 0 ≤ k → k < a → w k ≤ 0 → ι' 71 0 (st + k) = 0) → (g = 0 ∨ ∃ c, 0 ≤ c ∧ c < n ∧ hD (fun k => w (o k)) n c = g) → Fr (gLn st a) ι ι' → K g ι') : bC sc 239 [br 13 0, bi st, bi a, bi n] ι (bk1 K H) := by
  have hV := hO.VR hn.1
  have e0 : (ht (fun k => w (o k)) n (2 * 0)).1 = 0 := rfl
  have nt : ∀ c, c < n + ((0 : Nat) : Int) → ¬ tkn (fun k => w (o k)) n (2 * 0) c := fun c hc y => by unfold tkn at y; rw [e0] at y; omega
  refine e_M_joinAll_0 (m_join6 (w := w) (n := n) ha a.toNat 0 ι (by omega) h93 (fun k x y => by omega) (fun ι1 b F1 => ?_))
  have := m_join68 (sc := sc) (Q := bk1 K H) (st := st) ha hn hO hS (n - 1).toNat 0 ι1 bu bu bu (by omega) ⟨fun c c0 c1 => ⟨fun y => absurd y (nt c c1), fun _ => ?_⟩, fun k k0 k1 k2 => ?_⟩ (fun c c0 c1 => ?_) (fun c c0 c1 => ⟨fun y => absurd y (nt c c1), fun _ => ?_⟩) (fun ι2 v4 v7 v8 b1 b2 F2 => ?_)
  · rw [show a + ((0 : Nat) : Int) = a by omega, show ((0 : Nat) : Int) + 1 = 1 by omega] at this; exact this
  · have q := hO.1.1 c c0 (by omega)
    rw [nu_l (by omega), (b (o c) q.1 q.2.1).1, if_pos q.2.2]
  · have q := (b k k0 k1).1
    by_cases z : 0 < w k
    · obtain ⟨p, p0, p1, p2⟩ := hO.1.2.2 k k0 k1 z
      exact ⟨p, p0, p1, p2.symm⟩
    · rw [q, if_neg z] at k2; exact absurd rfl k2
  · have q := hO.1.1 c c0 (by omega)
    rw [nu_l (by omega), (b (o c) q.1 q.2.1).2.1, hW_l hV (by omega)]
  · have q := hO.1.1 c c0 (by omega)
    rw [nu_l (by omega), (b (o c) q.1 q.2.1).2.2]
  · exact m_dep177 ha hst hn hO a.toNat 0 0 ι2 v7 v8 (by omega) (by omega) (fun k x y => by rw [F2 93 0 k (by omega), F1 93 0 k (by omega)]; exact h93 k x y) b1 b2 (fun c x y q => by have := (hO.1.1 c x y).1; omega) (fun k x y => by omega) (Or.inl rfl) (fun ι' g c1 c2 c3 F3 => h ι' g c1 c2 c3 (((F1.trans F2).wide (fun t i j y => by omega)).trans F3))
theorem m_find85 {Q : bm_O → bm_S → Prop} {most g : Int} {v5 : bm_V} (ha : a ≤ 704) (hg : most < g) (hw0 : ∀ s, 0 ≤ s → s < a → 0 ≤ w s ∧ w s ≤ 1000000) : ∀ (m s : Nat) (ι : bm_S), (s : Int) + m = a → (∀ k, 0 ≤ k → k < (s : Int) → ι 93 0 k = half w k) → (∀ k, (s : Int) ≤ k → k < a → ι 93 0 k = w k) →
    (∀ (ι' : bm_S) (v7 : bm_V), (∀ k, 0 ≤ k → k < a → ι' 93 0 k = half w k) → Fr (fun t i j => t = 93) ι ι' → bW sc 238 66 [br 13 0, bi st, bi a, bi most, bi n, v5, bi g, v7] [] ι' Q) → bW sc 238 85 [br 13 0, bi st, bi a, bi most, bi n, v5, bi g, bi (s : Int)] [] ι Q
  | 0, s, ι, hs, h1, h2, h => e_M_findLengths_85 (bif_t (by omega) (h ι _ (fun k x y => h1 k x (by omega)) (Fr.refl _ _)))
  | m + 1, s, ι, hs, h1, h2, h => by
    have hb := hw0 s (by omega) (by omega)
    have step : ∀ x : Int, x = half w s → bW sc 238 85 [br 13 0, bi st, bi a, bi most, bi n, v5, bi g, bi ((s : Int) + 1)] [] (up ι 93 0 (s : Int) x) Q := fun x hx => by
      have F1 : Fr (fun t i j => t = 93) ι (up ι 93 0 (s : Int) x) := (Fr.refl _ _).u rfl
      rw [show (s : Int) + 1 = ((s + 1 : Nat) : Int) by omega]
      refine m_find85 ha hg hw0 m (s + 1) _ (by omega) (fun k k0 k1 => ?_) (fun k k0 k1 => by rw [up_j (by omega)]; exact h2 k (by omega) k1) (fun ι' v7 b F2 => h ι' v7 b (F1.trans F2))
      by_cases z : k = (s : Int)
      · rw [z, up_s]; exact hx
      · rw [up_j z]; exact h1 k k0 (by omega)
    refine e_M_findLengths_85 (bif_f (by omega) (bif_f (by omega) ?_))
    rw [h2 s (by omega) (by omega)]
    exact ⟨by omega, bif_i (fun z => ⟨by omega, by omega, step 0 (by unfold half; rw [if_neg (by omega)])⟩) (fun z => ⟨by omega, by omega, by omega, by omega, by omega, step _ (by unfold half; rw [if_pos (by omega)])⟩)⟩
abbrev gFl (st a : Int) (t : Nat) (_ j : Int) : Prop := 90 ≤ t ∧ t ≤ 93 ∨ t = 71 ∧ st ≤ j ∧ j < st + a ∨ t = 73 ∧ j = st
theorem m_find66 {K : Int → bm_S → Prop} {H : Nat × Int → bm_S → Prop} {most : Int} {v5 : bm_V} {L : Int → Int} (ha : a ≤ 704) (hst : 0 ≤ st ∧ st + a ≤ 18000) (hn : 2 ≤ n ∧ n ≤ a) (hm0 : 0 ≤ most) : ∀ (t : Nat) (w : Int → Int) (g : Int) (ι : bm_S) (v7 : bm_V), most < g → HL a n most t w L → SB w a n 1000000 → (∀ s, 0 ≤ s → s < a → 0 ≤ w s ∧ w s ≤ 1000000) → (∀ k, 0 ≤ k → k < a → ι 93 0 k = w k) →
    (∀ ι' : bm_S, (∀ k, 0 ≤ k → k < a → ι' 71 0 (st + k) = L k) → Fr (gFl st a) ι ι' → (∀ j, ι' 73 0 j = ι 73 0 j) → K n ι') → bW sc 238 66 [br 13 0, bi st, bi a, bi most, bi n, v5, bi g, v7] [] ι (bk1 K H)
  | 0, w, g, ι, v7, hg, hH, hB, hw0, h93, h => by
    obtain ⟨o, hO, h1, h2⟩ := hH
    refine e_M_findLengths_66 (bif_f (by omega) (m_joinA ha hst hn hO (hB o hO.1) h93 (fun ι1 g1 b1 b2 b3 F1 => ?_)))
    have hg1 : g1 ≤ most := by
      rcases b3 with e | ⟨c, c0, c1, c2⟩
      · omega
      · have := h1 c c0 c1; omega
    refine e_M_findLengths_85 (bif_f (by omega) (bif_t hg1 (e_M_findLengths_66 (bif_t hg1 (h ι1 (fun k k0 k1 => ?_) (F1.wide (fun t i j y => by omega)) (fun j => F1 73 0 j (by omega)))))))
    by_cases z : 0 < w k
    · obtain ⟨p, p0, p1, p2⟩ := hO.1.2.2 k k0 k1 z
      have q := b1 p p0 p1
      have q1 := h1 p p0 p1
      rw [p2] at q q1
      rw [q.1, q1.1]
    · rw [b2 k k0 k1 (by omega), h2 k k0 k1 (by omega)]
  | t + 1, w, g, ι, v7, hg, hH, hB, hw0, h93, h => by
    obtain ⟨o, hO, ⟨q, q0, q1, q2⟩, h2⟩ := hH
    refine e_M_findLengths_66 (bif_f (by omega) (m_joinA ha hst hn hO (hB o hO.1) h93 (fun ι1 g1 b1 b2 b3 F1 => ?_)))
    have hg1 := (b1 q q0 q1).2
    refine m_find85 ha (by omega) hw0 a.toNat 0 ι1 (by omega) (fun k x y => by omega) (fun k x y => by rw [F1 93 0 k (by omega)]; exact h93 k (by omega) y) (fun ι2 v7 c2 F2 => ?_)
    refine m_find66 ha hst hn hm0 t (half w) g1 ι2 v7 (by omega) h2 (SB_half hB) (fun s x y => by
      have := hw0 s x y
      unfold half
      split <;> omega) c2 (fun ι' d1 F3 d2 => h ι' d1 (((F1.wide (fun t i j y => by omega)).trans (F2.wide (fun t i j y => by omega))).trans F3) (fun j => by rw [d2 j, F2 73 0 j (by omega), F1 73 0 j (by omega)]))
theorem m_find15 {Q : bm_O → bm_S → Prop} {most : Int} {v7 : bm_V} {ι : bm_S} (ha : a ≤ 704) (hm : 0 ≤ most ∧ most ≤ 15) (hst : 0 ≤ st ∧ st + a ≤ 18000) (ha0 : 1 ≤ a) (h93 : ∀ k, 0 ≤ k → k < a → ι 93 0 k = w k) (h2 : 2 ≤ cu w a.toNat → ∀ v5 : bm_V, bW sc 238 66 [br 13 0, bi st, bi a, bi most, bi (cu w a.toNat), v5, bi (most + 1), v7] [] ι Q) (h1 : cu w a.toNat < 2 → Q (.inl (some (bi (cu w a.toNat)))) (up ι 73 0 st (lastp w a.toNat))) : ∀ (m s : Nat), (s : Int) + m = a → bW sc 238 15 [br 13 0, bi st, bi a, bi most, bi (cu w s), bi (lastp w s), bi (s : Int), v7] [] ι Q
  | 0, s, hs => by
    have es : s = a.toNat := by omega
    rw [es]
    exact e_M_findLengths_15 (bif_t (by omega) (bif_i (fun z => ⟨by omega, h2 z _⟩) (fun z => ⟨by omega, h1 (by omega)⟩)))
  | m + 1, s, hs => by
    have hcr := cu_rg w s
    have ih := m_find15 (v7 := v7) ha hm hst ha0 h93 h2 h1 m (s + 1) (by omega)
    have e1 : cu w (s + 1) = cu w s + (if 0 < w s then 1 else 0) := rfl
    have e2 : lastp w (s + 1) = if 0 < w s then (s : Int) else lastp w s := rfl
    rw [e1, e2, show ((s + 1 : Nat) : Int) = (s : Int) + 1 by omega] at ih
    refine e_M_findLengths_15 (bif_f (by omega) ?_)
    rw [h93 s (by omega) (by omega)]
    refine ⟨by omega, bif_i (fun z => ⟨by omega, ?_⟩) (fun z => ⟨by omega, by omega, ?_⟩)⟩
    · rw [if_neg (by omega), if_neg (by omega), show cu w s + 0 = cu w s by omega] at ih; exact ih
    · rw [if_pos (by omega), if_pos (by omega)] at ih; exact ih
/-- a code as the other finds it -/
def MCL (ι : bm_S) (st a n lone : Int) (L : Int → Int) : Prop := (∀ s, 0 ≤ s → s < a → ι 71 0 (st + s) = L s) ∧ ι 73 0 st = if n < 2 then lone else -1
theorem m_find {ι : bm_S} {K : Int → bm_S → Prop} {H : Nat × Int → bm_S → Prop} {most n lone : Int} {L : Int → Int} (ha : 1 ≤ a ∧ a ≤ 704) (hm : 0 ≤ most ∧ most ≤ 15) (hst : 0 ≤ st ∧ st + a ≤ 18000) (hC : CL a most w n lone L) (hB : SB w a (cu w a.toNat) 1000000) (hw0 : ∀ s, 0 ≤ s → s < a → 0 ≤ w s ∧ w s ≤ 1000000) (h93 : ∀ k, 0 ≤ k → k < a → ι 93 0 k = w k) (h : ∀ ι' : bm_S, MCL ι' st a n lone L → Fr (gFl st a) ι ι' → K n ι') : bC sc 238 [br 13 0, bi st, bi a, bi most] ι (bk1 K H) := by
  obtain ⟨en, el, hc⟩ := hC
  have hcr := cu_rg w a.toNat
  have no := m_noLengths (sc := sc) (st := st) (a := a.toNat) (ι := ι) (H := fun q ι => (bk1 K H) (.inr q) ι) (K := fun ι1 => bW sc 238 15 [br 13 0, bi st, bi a, bi most, bi 0, bi 0, bi 0, bu] [] ι1 (bk1 K H)) (by omega) (by omega) (fun ι1 b1 b2 F1 => ?_)
  · rw [show ((a.toNat : Nat) : Int) = a by omega] at no
    exact e_M_findLengths_0 no
  · have F1' : Fr (gFl st a) ι ι1 := F1.wide (fun t i j y => by omega)
    have h93' : ∀ k, 0 ≤ k → k < a → ι1 93 0 k = w k := fun k x y => by rw [F1 93 0 k (by omega)]; exact h93 k x y
    have b1' : ∀ s, 0 ≤ s → s < a → ι1 71 0 (st + s) = 0 := fun s x y => by have := b1 s.toNat (by omega); rw [show ((s.toNat : Nat) : Int) = s by omega] at this; exact this
    refine m_find15 (w := w) ha.2 hm hst ha.1 h93' (fun z v5 => ?_) (fun z => ?_) a.toNat 0 (by omega)
    · rw [← en] at z ⊢
      rcases hc with hc | ⟨-, t, hH⟩
      · omega
      · refine m_find66 ha.2 hst ⟨z, by omega⟩ hm.1 t w (most + 1) ι1 _ (by omega) hH (by rw [en]; exact hB) hw0 h93' (fun ι2 c1 F2 c2 => h ι2 ⟨c1, ?_⟩ (F1'.trans F2))
        rw [c2, b2, if_neg (by omega)]
    · rw [← en, ← el] at *
      rcases hc with ⟨-, hz⟩ | hc
      · refine h _ ⟨fun s x y => by rw [up_k (by decide), b1' s x y, hz s x y], by rw [up_s, if_pos z]⟩ (F1'.u (by omega))
      · omega
end MLen
