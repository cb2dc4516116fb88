/-! pack: comp settles a code, the loops -/
section Settle2
variable {sc : bm_Sc} {n0 a n most : Int}
theorem s_set122 {Q : bm_O → bm_S → Prop} {w o : Int → Int} {x2 : Int} (hL : CWL n0 a) (ha : a ≤ 704) (hn : n ≤ a) (hO : PM w a n o) (hw0 : ∀ s, 0 ≤ s → s < a → 0 ≤ w s ∧ w s ≤ 1000000) (hx2 : 0 ≤ x2 ∧ x2 < 40) : ∀ (m k : Nat) (ι : bm_S), (k : Int) + m = n → ι 5 n0 9 = n → (∀ q, 0 ≤ q → q < n → ι 29 n0 q = o q) → (∀ s, 0 ≤ s → s < a → (∀ q, 0 ≤ q → q < (k : Int) → o q ≠ s) → ι 26 n0 s = w s) → (∀ q, 0 ≤ q → q < (k : Int) → ι 26 n0 (o q) = half w (o q)) →
    (∀ (ι' : bm_S) (v3 : bm_V), WgC ι' n0 a (half w) → Fr (fun t i j => t = 26 ∧ i = n0) ι ι' → bW sc 40 95 [br 5 n0, bi most, bi (x2 + 1), v3] [] ι' Q) → bW sc 40 122 [br 5 n0, bi most, bi x2, bi (k : Int)] [] ι Q
  | 0, k, ι, hk, h9, hr, hu, hd, h => by
    refine e_CW_settle_122 ?_
    rw [h9]
    refine bif_t (by omega) ⟨by omega, h ι _ (fun s s0 s1 => ?_) (Fr.refl _ _)⟩
    by_cases z : 0 < w s
    · obtain ⟨p, p0, p1, p2⟩ := hO.2.2 s s0 s1 z
      rw [← p2]; exact hd p p0 (by omega)
    · have e : half w s = 0 := if_neg z
      rw [hu s s0 s1 (fun q q0 q1 e2 => z (by rw [← e2]; exact (hO.1 q q0 (by omega)).2.2)), e]
      have := hw0 s s0 s1; omega
  | m + 1, k, ι, hk, h9, hr, hu, hd, h => by
    have c := hO.1 k (by omega) (by omega)
    have ek := hu (o k) c.1 c.2.1 (fun q q0 q1 e2 => by have := hO.2.1 q k q0 (by omega) (by omega) (by omega) e2; omega)
    have hb := hw0 (o k) c.1 c.2.1
    have eh : half w (o k) = w (o k) / 2 + 1 := if_pos c.2.2
    refine e_CW_settle_122 ?_
    rw [h9, hL.1, hL.2.2.2.1, hr k (by omega) (by omega), ek]
    refine bif_f (by omega) ⟨by omega, by omega, by omega, by omega, by omega, by omega, by omega, ?_⟩
    have F1 : Fr (fun t i j => t = 26 ∧ i = n0) ι (up ι 26 n0 (o k) (w (o k) / 2 + 1)) := (Fr.refl _ _).u ⟨rfl, rfl⟩
    rw [show (k : Int) + 1 = ((k + 1 : Nat) : Int) by omega]
    refine s_set122 hL ha hn hO hw0 hx2 m (k + 1) _ (by omega) (by rw [F1 5 n0 9 (by omega)]; exact h9) (fun q x y => by rw [F1 29 n0 q (by omega)]; exact hr q x y) (fun s s0 s1 hs => ?_) (fun q x y => ?_) (fun ι' v3 b F2 => h ι' v3 b (F1.trans F2))
    · rw [up_j (fun e => hs k (by omega) (by omega) e.symm)]
      exact hu s s0 s1 (fun q x y => hs q x (by omega))
    · by_cases z : q = (k : Int)
      · rw [z, up_s, eh]
      · rw [up_j (fun e => z (hO.2.1 q k x (by omega) (by omega) (by omega) e))]; exact hd q x (by omega)
abbrev fCW (n0 : Int) (t : Nat) (i j : Int) : Prop := i = n0 ∧ (26 ≤ t ∧ t ≤ 34 ∨ t = 5 ∧ (j = 9 ∨ j = 10))
def CWS (ι : bm_S) (n0 a n lone : Int) (L : Int → Int) : Prop := ι 5 n0 9 = max n 1 ∧ (n < 2 → ι 29 n0 0 = lone) ∧ (∀ s, 0 ≤ s → s < a → ι 27 n0 s = L s) ∧ ∀ s, 0 ≤ s → s < a → 1 ≤ L s → ι 28 n0 s = trn (cd L a s) (L s).toNat
def CL (a most : Int) (w : Int → Int) (n lone : Int) (L : Int → Int) : Prop := n = cu w a.toNat ∧ lone = lastp w a.toNat ∧ ((n < 2 ∧ ∀ s, 0 ≤ s → s < a → L s = 0) ∨ (2 ≤ n ∧ ∃ t, HL a n most t w L))
theorem s_set95 {K : bm_S → Prop} {H : Nat × Int → bm_S → Prop} (hL : CWL n0 a) (ha : a ≤ 704) (hn : 2 ≤ n ∧ n ≤ a) (hmost : most ≤ 15) : ∀ (m : Nat) (x2 : Int) (w R : Int → Int) (ι : bm_S) (v3 : bm_V), 0 ≤ x2 → x2 + m < 40 → TE a n most m w → SB w a n 1000000 → (∀ s, 0 ≤ s → s < a → 0 ≤ w s ∧ w s ≤ 1000000) → PM w a n R → ι 5 n0 9 = n → WgC ι n0 a w → (∀ p, 0 ≤ p → p < n → ι 29 n0 p = R p) → (∀ s, 0 ≤ s → s < a → w s ≤ 0 → ι 27 n0 s = 0) →
    (∀ (ι' : bm_S) (L : Int → Int) (t : Nat), HL a n most t w L → ι' 5 n0 9 = n → (∀ s, 0 ≤ s → s < a → ι' 27 n0 s = L s) → (∀ s, 0 ≤ s → s < a → 1 ≤ L s → ι' 28 n0 s = trn (cd L a s) (L s).toNat) → Fr (fCW n0) ι ι' → K ι') → bW sc 40 95 [br 5 n0, bi most, bi x2, v3] [] ι (bk0 K H) := by
  intro m
  induction m with
  | zero =>
    intro x2 w R ι v3 hx hm hT hB hw0 hP h9 hw hr h0 h
    refine e_CW_settle_95 (bif_f (by omega) (s_sort hL (by omega) ha hP h9 hw hr (fun ι1 o hO r1 F1 => ?_)))
    have w1 : WgC ι1 n0 a w := fun s x y => by rw [F1 26 n0 s (by omega)]; exact hw s x y
    refine s_join hL ha hn hO (hB o hO.1) (by rw [F1 5 n0 9 (by omega)]; exact h9) w1 r1 (fun ι2 p2 F2 => ?_)
    refine s_depth hL ha hn hO (by rw [F2 5 n0 9 (by omega), F1 5 n0 9 (by omega)]; exact h9) (fun k x y => by rw [F2 29 n0 k (by omega)]; exact r1 k x y) p2 (fun ι3 mx d1 d2 d3 F3 => ?_)
    obtain ⟨q, q0, q1, q2⟩ := d2
    have hD := hT o hO
    have hdq := hD q q0 q1
    have no : ∀ s, 0 ≤ s → s < a → w s ≤ 0 → ι3 27 n0 s = 0 := fun s s0 s1 s2 => by
      rw [F3 27 n0 s (fun y => by
        rcases y.2 with y | ⟨-, p, p0, p1, p2⟩
        · omega
        · have := (hO.1.1 p p0 p1).2.2; rw [← p2] at this; omega), F2 27 n0 s (by omega), F1 27 n0 s (by omega)]
      exact h0 s s0 s1 s2
    have hHL : HL a n most 0 w (fun s => ι3 27 n0 s) := ⟨o, hO, fun p p0 p1 => ⟨d3 p p0 p1, by show ι3 27 n0 (o p) ≤ most; rw [d3 p p0 p1]; exact hD p p0 p1⟩, no⟩
    have hrg := HL_rg hn.1 0 w hHL
    refine bif_f (by omega) (s_make (L := fun s => ι3 27 n0 s) hL (by omega) (fun s _ _ => rfl) (fun ι4 c4 F4 => ?_))
    refine h ι4 (fun s => ι3 27 n0 s) 0 hHL (by rw [F4 5 n0 9 (by omega), F3 5 n0 9 (by omega), F2 5 n0 9 (by omega), F1 5 n0 9 (by omega)]; exact h9) (fun s s0 s1 => F4 27 n0 s (by omega)) (fun s s0 s1 s2 => c4 s s0 s1 s2 (by have := hrg s s0 s1; omega)) ?_
    exact (((F1.wide (fun t i j y => by omega)).trans (F2.wide (fun t i j y => by omega))).trans (F3.wide (fun t i j y => ⟨y.1, by rcases y.2 with y | y <;> omega⟩))).trans (F4.wide (fun t i j y => by omega))
  | succ m ih =>
    intro x2 w R ι v3 hx hm hT hB hw0 hP h9 hw hr h0 h
    refine e_CW_settle_95 (bif_f (by omega) (s_sort hL (by omega) ha hP h9 hw hr (fun ι1 o hO r1 F1 => ?_)))
    have w1 : WgC ι1 n0 a w := fun s x y => by rw [F1 26 n0 s (by omega)]; exact hw s x y
    refine s_join hL ha hn hO (hB o hO.1) (by rw [F1 5 n0 9 (by omega)]; exact h9) w1 r1 (fun ι2 p2 F2 => ?_)
    refine s_depth hL ha hn hO (by rw [F2 5 n0 9 (by omega), F1 5 n0 9 (by omega)]; exact h9) (fun k x y => by rw [F2 29 n0 k (by omega)]; exact r1 k x y) p2 (fun ι3 mx d1 d2 d3 F3 => ?_)
    obtain ⟨q, q0, q1, q2⟩ := d2
    have no : ∀ s, 0 ≤ s → s < a → w s ≤ 0 → ι3 27 n0 s = 0 := fun s s0 s1 s2 => by
      rw [F3 27 n0 s (fun y => by
        rcases y.2 with y | ⟨-, p, p0, p1, p2⟩
        · omega
        · have := (hO.1.1 p p0 p1).2.2; rw [← p2] at this; omega), F2 27 n0 s (by omega), F1 27 n0 s (by omega)]
      exact h0 s s0 s1 s2
    have F123 : Fr (fCW n0) ι ι3 := ((F1.wide (fun t i j y => by omega)).trans (F2.wide (fun t i j y => by omega))).trans (F3.wide (fun t i j y => ⟨y.1, by rcases y.2 with y | y <;> omega⟩))
    have h93 : ι3 5 n0 9 = n := by rw [F3 5 n0 9 (by omega), F2 5 n0 9 (by omega), F1 5 n0 9 (by omega)]; exact h9
    have r3 : ∀ p, 0 ≤ p → p < n → ι3 29 n0 p = o p := fun p x y => by rw [F3 29 n0 p (by omega), F2 29 n0 p (by omega)]; exact r1 p x y
    refine bif_i (fun z => ?_) (fun z => ?_)
    · refine s_set122 hL ha hn.2 hO.1 hw0 (by omega) n.toNat 0 ι3 (by omega) h93 r3 (fun s x y _ => by rw [F3 26 n0 s (by omega), F2 26 n0 s (by omega)]; exact w1 s x y) (fun q x y => by omega) (fun ι4 v3 w4 F4 => ?_)
      refine ih (x2 + 1) (half w) o ι4 v3 (by omega) (by omega) hT (SB_half hB) (fun s x y => by
        have := hw0 s x y
        unfold half
        split <;> omega) (PM_half.mpr hO.1) (by rw [F4 5 n0 9 (by omega)]; exact h93) w4 (fun p x y => by rw [F4 29 n0 p (by omega)]; exact r3 p x y) (fun s x y z => ?_) (fun ι' L t b1 b2 b3 b4 F5 => h ι' L (t + 1) ⟨o, hO, ⟨q, q0, q1, by omega⟩, b1⟩ b2 b3 b4 ((F123.trans (F4.wide (fun t i j y => by omega))).trans F5))
      rw [F4 27 n0 s (by omega)]
      refine no s x y ?_
      have := half_pos (w := w) s
      omega
    · have hHL : HL a n most 0 w (fun s => ι3 27 n0 s) := ⟨o, hO, fun p p0 p1 => ⟨d3 p p0 p1, by show ι3 27 n0 (o p) ≤ most; rw [d3 p p0 p1]; have := d1 p p0 p1; omega⟩, no⟩
      have hrg := HL_rg hn.1 0 w hHL
      refine s_make (L := fun s => ι3 27 n0 s) hL (by omega) (fun s _ _ => rfl) (fun ι4 c4 F4 => ?_)
      exact h ι4 (fun s => ι3 27 n0 s) 0 hHL (by rw [F4 5 n0 9 (by omega)]; exact h93) (fun s s0 s1 => F4 27 n0 s (by omega)) (fun s s0 s1 s2 => c4 s s0 s1 s2 (by have := hrg s s0 s1; omega)) (F123.trans (F4.wide (fun t i j y => by omega)))
theorem s_set15 {Q : bm_O → bm_S → Prop} {w : Int → Int} {v3 : bm_V} (hL : CWL n0 a) (ha : 1 ≤ a ∧ a ≤ 704) : ∀ (m s : Nat) (ι : bm_S), (s : Int) + m = a → ι 5 n0 9 = cu w s → WgC ι n0 a w → (∀ p, 0 ≤ p → p < cu w s → 0 ≤ ι 29 n0 p ∧ ι 29 n0 p < s ∧ 0 < w (ι 29 n0 p)) → (∀ p q, 0 ≤ p → p < cu w s → 0 ≤ q → q < cu w s → ι 29 n0 p = ι 29 n0 q → p = q) → (∀ x, 0 ≤ x → x < (s : Int) → 0 < w x → ∃ p, 0 ≤ p ∧ p < cu w s ∧ ι 29 n0 p = x) → (0 < cu w s → ι 29 n0 (cu w s - 1) = lastp w s) → (cu w s ≤ 0 → lastp w s = 0) →
    (∀ ι' : bm_S, ι' 5 n0 9 = cu w a.toNat → PM w a (cu w a.toNat) (fun p => ι' 29 n0 p) → (0 < cu w a.toNat → ι' 29 n0 (cu w a.toNat - 1) = lastp w a.toNat) → (cu w a.toNat ≤ 0 → lastp w a.toNat = 0) → Fr (fun t i j => i = n0 ∧ (t = 29 ∨ t = 5 ∧ j = 9)) ι ι' → if (2 : Int) ≤ ι' 5 n0 9 then bW sc 40 95 [br 5 n0, bi most, bi 0, v3] [] ι' Q else if ι' 5 n0 9 = (0 : Int) then Q (.inl none) (up (up ι' 29 n0 0 0) 5 n0 9 1) else Q (.inl none) (up (up ι' 29 n0 0 (ι' 29 n0 0)) 5 n0 9 1)) → bW sc 40 15 [br 5 n0, bi most, bi (s : Int), v3] [] ι Q
  | 0, s, ι, hs, h9, hw, hr, hi, hc, hl, hl0, h => by
    have es : s = a.toNat := by omega
    rw [es] at h9 hr hi hc hl hl0
    have q := h ι h9 ⟨fun p x y => by have := hr p x y; exact ⟨this.1, by show ι 29 n0 p < a; omega, this.2.2⟩, hi, fun x x0 x1 x2 => hc x x0 (by omega) x2⟩ hl hl0 (Fr.refl _ _)
    refine e_CW_settle_15 (bif_t (by rw [hL.1]; omega) (bif_i (fun z => ?_) (fun z => ?_)))
    · rw [if_pos z] at q; exact q
    · rw [if_neg z] at q
      rw [hL.2.2.2.1]
      refine bif_i (fun y => ?_) (fun y => ?_)
      · rw [if_pos y] at q; exact ⟨by omega, q⟩
      · rw [if_neg y] at q; exact ⟨by omega, by omega, q⟩
  | m + 1, s, ι, hs, h9, hw, hr, hi, hc, hl, hl0, h => by
    have hcr := cu_rg w s
    have e1 : cu w (s + 1) = cu w s + (if 0 < w s then 1 else 0) := rfl
    have e2 : lastp w (s + 1) = if 0 < w s then (s : Int) else lastp w s := rfl
    refine e_CW_settle_15 ?_
    rw [hL.1, hL.2.2.2.1, hw s (by omega) (by omega), h9]
    refine bif_f (by omega) ⟨by omega, bif_i (fun z => ⟨by omega, ?_⟩) (fun z => ⟨by omega, by omega, by omega, ?_⟩)⟩
    · rw [if_neg (by omega)] at e1 e2
      rw [show cu w s + 0 = cu w s by omega] at e1
      rw [show (s : Int) + 1 = ((s + 1 : Nat) : Int) by omega]
      refine s_set15 hL ha m (s + 1) ι (by omega) (by rw [e1]; exact h9) hw (fun p x y => by have := hr p x (by omega); exact ⟨this.1, by omega, this.2.2⟩) (fun p q x y x' y' => hi p q x (by omega) x' (by omega)) (fun x x0 x1 x2 => ?_) (by rw [e1, e2]; exact hl) (by rw [e1, e2]; exact hl0) h
      rw [e1]
      by_cases y : x = (s : Int)
      · rw [y] at x2; omega
      · exact hc x x0 (by omega) x2
    · rw [if_pos (by omega)] at e1 e2
      have F1 : Fr (fun t i j => i = n0 ∧ (t = 29 ∨ t = 5 ∧ j = 9)) ι (up (up ι 5 n0 9 (cu w s + 1)) 29 n0 (cu w s) s) := ((Fr.refl _ _).u (by omega)).u (by omega)
      have g1 : (up (up ι 5 n0 9 (cu w s + 1)) 29 n0 (cu w s) (s : Int)) 29 n0 (cu w s) = s := up_s
      have g2 : ∀ p, p ≠ cu w s → (up (up ι 5 n0 9 (cu w s + 1)) 29 n0 (cu w s) (s : Int)) 29 n0 p = ι 29 n0 p := fun p hp => by rw [up_j hp, up_k (by decide)]
      rw [show (s : Int) + 1 = ((s + 1 : Nat) : Int) by omega]
      refine s_set15 hL ha m (s + 1) _ (by omega) (by rw [up_k (by decide), up_s, e1]) (fun x x0 x1 => by rw [F1 26 n0 x (by omega)]; exact hw x x0 x1) (fun p x y => ?_) (fun p q x y x' y' e => ?_) (fun x x0 x1 x2 => ?_) (fun _ => ?_) (by omega) (fun ι' b1 b2 b3 b4 F2 => h ι' b1 b2 b3 b4 (F1.trans F2))
      · by_cases c : p = cu w s
        · rw [c, g1]; exact ⟨by omega, by omega, by omega⟩
        · rw [g2 p c]; have := hr p x (by omega); exact ⟨this.1, by omega, this.2.2⟩
      · by_cases c : p = cu w s
        · by_cases d : q = cu w s
          · omega
          · rw [c, g1, g2 q d] at e; have := hr q x' (by omega); omega
        · by_cases d : q = cu w s
          · rw [d, g1, g2 p c] at e; have := hr p x (by omega); omega
          · rw [g2 p c, g2 q d] at e; exact hi p q x (by omega) x' (by omega) e
      · by_cases y : x = (s : Int)
        · exact ⟨cu w s, by omega, by omega, by rw [g1, y]⟩
        · obtain ⟨p, p0, p1, p2⟩ := hc x x0 (by omega) x2
          exact ⟨p, p0, by omega, by rw [g2 p (by omega)]; exact p2⟩
      · rw [e1, e2, show cu w s + 1 - 1 = cu w s by omega]; exact g1
theorem s_settle {ι : bm_S} {K : bm_S → Prop} {H : Nat × Int → bm_S → Prop} {w : Int → Int} {m : Nat} (hL : CWL n0 a) (ha : 1 ≤ a ∧ a ≤ 704) (hmost : most ≤ 15) (hm : m < 40) (hT : 2 ≤ cu w a.toNat → TE a (cu w a.toNat) most m w) (hB : SB w a (cu w a.toNat) 1000000) (hw0 : ∀ s, 0 ≤ s → s < a → 0 ≤ w s ∧ w s ≤ 1000000) (hw : WgC ι n0 a w)
    (h : ∀ (ι' : bm_S) (n lone : Int) (L : Int → Int), CL a most w n lone L → CWS ι' n0 a n lone L → Fr (fCW n0) ι ι' → K ι') : bC sc 40 [br 5 n0, bi most] ι (bk0 K H) := by
  refine e_CW_settle_0 (s_fill_27 (by rw [hL.2.1]; omega) (fun ι1 b1 F1 => ?_))
  rw [hL.2.1] at b1
  have hcr := cu_rg w a.toNat
  have F2 : Fr (fCW n0) ι (up ι1 5 n0 9 0) := (F1.wide (fun t i j y => by omega)).u (by omega)
  refine s_set15 (w := w) hL ha a.toNat 0 _ (by omega) (by rw [up_s]; rfl) (fun s x y => by rw [up_k (by decide), F1 26 n0 s (by omega)]; exact hw s x y) (fun p x y => by have e : cu w 0 = 0 := rfl; omega) (fun p q x y => by have e : cu w 0 = 0 := rfl; omega) (fun x x0 x1 => by omega) (fun y => by have e : cu w 0 = 0 := rfl; omega) (fun _ => rfl) (fun ι2 c1 c2 c3 c4 F3 => ?_)
  have F23 : Fr (fCW n0) ι ι2 := F2.trans (F3.wide (fun t i j y => by omega))
  have z27 : ∀ s, 0 ≤ s → s < a → ι2 27 n0 s = 0 := fun s x y => by rw [F3 27 n0 s (by omega), up_k (by decide)]; exact b1 s x y
  refine bif_i (fun z => ?_) (fun z => ?_)
  · rw [c1] at z
    refine s_set95 hL ha.2 ⟨z, by omega⟩ hmost m 0 w _ ι2 _ (by omega) (by omega) (hT z) hB hw0 c2 c1 (fun s x y => by rw [F3 26 n0 s (by omega), up_k (by decide), F1 26 n0 s (by omega)]; exact hw s x y) (fun p _ _ => rfl) (fun s x y _ => z27 s x y) (fun ι3 L t d1 d2 d3 d4 F4 => ?_)
    exact h ι3 (cu w a.toNat) (lastp w a.toNat) L ⟨rfl, rfl, Or.inr ⟨z, t, d1⟩⟩ ⟨by rw [d2]; omega, fun y => by omega, d3, d4⟩ (F23.trans F4)
  · rw [c1] at z ⊢
    have fin : ∀ x : Int, x = lastp w a.toNat → K (up (up ι2 29 n0 0 x) 5 n0 9 1) := fun x hx => by
      refine h _ (cu w a.toNat) (lastp w a.toNat) (fun _ => 0) ⟨rfl, rfl, Or.inl ⟨by omega, fun _ _ _ => rfl⟩⟩ ⟨by rw [up_s]; omega, fun _ => by rw [up_k (by decide), up_s]; exact hx, fun s x y => by rw [up_k (by decide), up_k (by decide)]; exact z27 s x y, fun s x y (q : (1 : Int) ≤ 0) => by omega⟩ ((F23.u (by omega)).u (by omega))
    refine bif_i (fun y => fin 0 (c4 (by omega)).symm) (fun y => fin _ ?_)
    have := c3 (by omega)
    rw [show cu w a.toNat - 1 = 0 by omega] at this
    exact this
/-! when it ends -/
theorem TE15 {w : Int → Int} (hn : 2 ≤ n) (hB : SB w a n 2000) : TE a n 15 0 w := fun o hO q q0 q1 => hD_15 (hO.VR hn) (hB o hO.1) q0 q1
theorem TE5 (hn : 2 ≤ n ∧ n ≤ 18) : ∀ (k : Nat) (w : Int → Int), (∀ s, 0 ≤ s → s < a → w s ≤ 2 ^ k + 2) → TE a n 5 (k + 1) w
  | 0, w, h => fun o hO q q0 q1 => hD_12 (hO.VR hn.1) (fun k x y => by
      have c := hO.1.1 k x y
      have := h (o k) c.1 c.2.1
      show half w (o k) ≤ 2
      have e : (2 : Int) ^ 0 = 1 := rfl
      unfold half
      split <;> omega) hn.2 q0 q1
  | k + 1, w, h => TE5 hn k (half w) (fun s x y => by
      have := h s x y
      rw [Int.pow_succ] at this
      have p : (1 : Int) ≤ 2 ^ k := Int.pow_pos (by decide)
      unfold half
      split <;> omega)
end Settle2
