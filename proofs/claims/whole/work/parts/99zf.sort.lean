/-! pack: comp puts the signs in order -/
section Sorting
variable {sc : bm_Sc} {n0 a n : Int} {w : Int → Int}
def CWL (n0 a : Int) : Prop := bm_L 26 n0 = a ∧ bm_L 27 n0 = a ∧ bm_L 28 n0 = a ∧ bm_L 29 n0 = a ∧ bm_L 30 n0 = a ∧ bm_L 31 n0 = a ∧ bm_L 32 n0 = 2 * a ∧ bm_L 33 n0 = 2 * a ∧ bm_L 34 n0 = 2 * a
theorem CWL0 : CWL 0 256 := ⟨rfl, rfl, rfl, rfl, rfl, rfl, rfl, rfl, rfl⟩
theorem CWL1 : CWL 1 704 := ⟨rfl, rfl, rfl, rfl, rfl, rfl, rfl, rfl, rfl⟩
theorem CWL2 : CWL 2 64 := ⟨rfl, rfl, rfl, rfl, rfl, rfl, rfl, rfl, rfl⟩
theorem CWL3 : CWL 3 18 := ⟨rfl, rfl, rfl, rfl, rfl, rfl, rfl, rfl, rfl⟩
def wlt (w : Int → Int) (s t : Int) : Prop := w s < w t ∨ (w s = w t ∧ s < t)
theorem wlt_tot {s t : Int} (h : s ≠ t) (hn : ¬ wlt w s t) : wlt w t s := by unfold wlt at hn ⊢; omega
theorem wlt_tr {s t x : Int} (h : wlt w s t) (h2 : wlt w t x) : wlt w s x := by unfold wlt at h h2 ⊢; omega
/-- a row that has each sign that is there, once -/
def PM (w : Int → Int) (a n : Int) (r : Int → Int) : Prop := (∀ p, 0 ≤ p → p < n → 0 ≤ r p ∧ r p < a ∧ 0 < w (r p)) ∧ (∀ p q, 0 ≤ p → p < n → 0 ≤ q → q < n → r p = r q → p = q) ∧ ∀ s, 0 ≤ s → s < a → 0 < w s → ∃ p, 0 ≤ p ∧ p < n ∧ r p = s
def OR (w : Int → Int) (a n : Int) (r : Int → Int) : Prop := PM w a n r ∧ ∀ p, 0 ≤ p → p + 1 < n → wlt w (r p) (r (p + 1))
theorem PM_c {r r' : Int → Int} (h : PM w a n r) (e : ∀ p, 0 ≤ p → p < n → r' p = r p) : PM w a n r' := by
  refine ⟨fun p x y => by rw [e p x y]; exact h.1 p x y, fun p q x y x' y' z => h.2.1 p q x y x' y' (by rw [← e p x y, ← e q x' y']; exact z), fun s x y z => ?_⟩
  obtain ⟨p, p0, p1, p2⟩ := h.2.2 s x y z
  exact ⟨p, p0, p1, by rw [e p p0 p1]; exact p2⟩
theorem PM_sw {r : Int → Int} {i j : Int} (h : PM w a n r) (hi : 0 ≤ i ∧ i < n) (hj : 0 ≤ j ∧ j < n) (hij : i ≠ j) : PM w a n (fu (fu r i (r j)) j (r i)) := by
  have e : ∀ p, fu (fu r i (r j)) j (r i) p = if p = j then r i else if p = i then r j else r p := fun p => rfl
  have e1 : ∀ p, fu (fu r i (r j)) j (r i) p = r (if p = j then i else if p = i then j else p) := fun p => by
    rw [e]
    by_cases z : p = j
    · rw [if_pos z, if_pos z]
    · by_cases z2 : p = i
      · rw [if_neg z, if_neg z, if_pos z2, if_pos z2]
      · rw [if_neg z, if_neg z, if_neg z2, if_neg z2]
  have rg : ∀ p, 0 ≤ p → p < n → 0 ≤ (if p = j then i else if p = i then j else p) ∧ (if p = j then i else if p = i then j else p) < n := fun p x y => by
    split
    · exact hi
    · split
      · exact hj
      · exact ⟨x, y⟩
  refine ⟨fun p x y => by rw [e1]; exact h.1 _ (rg p x y).1 (rg p x y).2, fun p q x y x' y' z => ?_, fun s x y z => ?_⟩
  · rw [e1, e1] at z
    have := h.2.1 _ _ (rg p x y).1 (rg p x y).2 (rg q x' y').1 (rg q x' y').2 z
    grind
  · obtain ⟨p, p0, p1, p2⟩ := h.2.2 s x y z
    refine ⟨if p = j then i else if p = i then j else p, (rg p p0 p1).1, (rg p p0 p1).2, ?_⟩
    rw [e1, ← p2]
    congr 1
    grind
/-- weights and the row in comp -/
def WgC (ι : bm_S) (n0 a : Int) (w : Int → Int) : Prop := ∀ s, 0 ≤ s → s < a → ι 26 n0 s = w s
theorem s_later {ι : bm_S} {K : Int → bm_S → Prop} {H : Nat × Int → bm_S → Prop} {x y : Int} (hL : CWL n0 a) (hx : 0 ≤ x ∧ x < a) (hy : 0 ≤ y ∧ y < a) (hw : WgC ι n0 a w) (h1 : wlt w y x → K 1 ι) (h0 : ¬ wlt w y x → K 0 ι) : bC sc 41 [br 5 n0, bi x, bi y] ι (bk1 K H) := by
  refine e_CW_comesLater_0 ?_
  rw [hL.1, hw x hx.1 hx.2, hw y hy.1 hy.2]
  unfold wlt at h1 h0
  exact ⟨hx, hy, bif_i (fun z => ⟨by omega, h1 (by omega)⟩) (fun z => ⟨hx, hy, bif_i (fun z1 => bif_i (fun z2 => ⟨by omega, h0 (by omega)⟩) (fun z2 => ⟨by omega, h1 (by omega)⟩)) (fun z1 => ⟨by omega, h0 (by omega)⟩)⟩)⟩
theorem s_sort19 {Q : bm_O → bm_S → Prop} {k : Int} (hL : CWL n0 a) (hk : k < n) (hn : n ≤ a) (ha : a ≤ 704) : ∀ (q : Nat) (R : Int → Int) (ι : bm_S), (q : Int) ≤ k → PM w a n R → (∀ p, 0 ≤ p → p + 1 ≤ k → p + 1 ≠ q → wlt w (R p) (R (p + 1))) → (0 < (q : Int) → (q : Int) < k → wlt w (R (q - 1)) (R (q + 1))) → WgC ι n0 a w → (∀ p, 0 ≤ p → p < n → p ≠ q → ι 29 n0 p = R p) →
    (∀ (ι' : bm_S) (R' : Int → Int) (v2 v3 : bm_V), PM w a n R' → (∀ p, 0 ≤ p → p + 1 ≤ k → wlt w (R' p) (R' (p + 1))) → (∀ p, 0 ≤ p → p < n → ι' 29 n0 p = R' p) → Fr (fun t i j => t = 29 ∧ i = n0) ι ι' → bW sc 42 2 [br 5 n0, bi (k + 1), v2, v3] [] ι' Q) →
    bW sc 42 19 [br 5 n0, bi k, bi (R q), bi q] [] ι Q := by
  intro q
  induction q with
  | zero =>
    intro R ι hq hP h1 h2 hw hr h
    refine e_CW_sortOrder_19 (bif_t (by omega) ⟨by rw [hL.2.2.2.1]; omega, by omega, ?_⟩)
    refine h _ R _ _ hP (fun p x y => h1 p x y (by omega)) (fun p x y => ?_) ((Fr.refl _ _).u ⟨rfl, rfl⟩)
    by_cases z : p = ((0 : Nat) : Int)
    · rw [z, up_s]
    · rw [up_j z]; exact hr p x y z
  | succ q ih =>
    intro R ι hq hP h1 h2 hw hr h
    have c1 := hP.1 ((q + 1 : Nat) : Int) (by omega) (by omega)
    have c2 := hP.1 (q : Int) (by omega) (by omega)
    have er : ι 29 n0 (((q + 1 : Nat) : Int) - 1) = R q := by rw [show ((q + 1 : Nat) : Int) - 1 = q by omega]; exact hr _ (by omega) (by omega) (by omega)
    refine e_CW_sortOrder_19 (bif_f (by omega) ?_)
    rw [er, hL.2.2.2.1]
    refine ⟨by omega, by omega, s_later hL ⟨c2.1, c2.2.1⟩ ⟨c1.1, c1.2.1⟩ hw (fun y => bif_f (by omega) ⟨by omega, by omega, by omega, by omega, ?_⟩) (fun y => bif_t rfl ⟨by omega, by omega, ?_⟩)⟩
    · -- moved
      rw [er]
      obtain ⟨R', hR'⟩ : ∃ R', R' = fu (fu R q (R ((q + 1 : Nat) : Int))) ((q + 1 : Nat) : Int) (R q) := ⟨_, rfl⟩
      have e1 : R' q = R ((q + 1 : Nat) : Int) := by rw [hR', fu_n (by omega), fu_s]
      have e2 : R' ((q + 1 : Nat) : Int) = R q := by rw [hR', fu_s]
      have e3 : ∀ p : Int, p ≠ (q : Int) → p ≠ ((q + 1 : Nat) : Int) → R' p = R p := fun p z1 z2 => by rw [hR', fu_n z2, fu_n z1]
      have F1 : Fr (fun t i j => t = 29 ∧ i = n0) ι (up ι 29 n0 ((q + 1 : Nat) : Int) (R q)) := (Fr.refl _ _).u ⟨rfl, rfl⟩
      rw [show ((q + 1 : Nat) : Int) + (-1) = q by omega, ← e1]
      refine ih R' _ (by omega) (by rw [hR']; exact PM_sw hP (by omega) (by omega) (by omega)) (fun p x z1 z2 => ?_) (fun x z => ?_) (fun s x z => by rw [F1 26 n0 s (by omega)]; exact hw s x z) (fun p x z1 z2 => ?_) (fun ι' R2 v2 v3 a1 a2 a3 F2 => h ι' R2 v2 v3 a1 a2 a3 (F1.trans F2))
      · by_cases b1 : p = q
        · rw [b1, e1, show (q : Int) + 1 = ((q + 1 : Nat) : Int) by omega, e2]; exact y
        · by_cases b2 : p = ((q + 1 : Nat) : Int)
          · rw [b2, e2, e3 _ (by omega) (by omega)]
            have := h2 (by omega) (by omega)
            rw [show ((q + 1 : Nat) : Int) - 1 = q by omega] at this
            exact this
          · rw [e3 p b1 b2, e3 (p + 1) z2 (by omega)]; exact h1 p x z1 (by omega)
      · rw [e3 _ (by omega) (by omega), show (q : Int) + 1 = ((q + 1 : Nat) : Int) by omega, e2]
        have := h1 ((q : Int) - 1) (by omega) (by omega) (by omega)
        rw [show (q : Int) - 1 + 1 = q by omega] at this
        exact this
      · by_cases b : p = ((q + 1 : Nat) : Int)
        · rw [b, up_s, e2]
        · rw [up_j b, e3 p z2 b]; exact hr p x z1 b
    · refine h _ R _ _ hP (fun p x z => ?_) (fun p x z => ?_) ((Fr.refl _ _).u ⟨rfl, rfl⟩)
      · by_cases b : p + 1 = ((q + 1 : Nat) : Int)
        · rw [b, show p = (q : Int) by omega]
          refine wlt_tot (fun e => ?_) y
          have := hP.2.1 _ _ (by omega) (by omega) (by omega) (by omega) e
          omega
        · exact h1 p x z b
      · by_cases b : p = ((q + 1 : Nat) : Int)
        · rw [b, up_s]
        · rw [up_j b]; exact hr p x z b
theorem s_sort2 {K : bm_S → Prop} {H : Nat × Int → bm_S → Prop} (hL : CWL n0 a) (hn : n ≤ a) (ha : a ≤ 704) : ∀ (m k : Nat) (R : Int → Int) (ι : bm_S) (v2 v3 : bm_V), (k : Int) + m = n → 1 ≤ k → PM w a n R → (∀ p, 0 ≤ p → p + 1 < (k : Int) → wlt w (R p) (R (p + 1))) → ι 5 n0 9 = n → WgC ι n0 a w → (∀ p, 0 ≤ p → p < n → ι 29 n0 p = R p) →
    (∀ (ι' : bm_S) (R' : Int → Int), OR w a n R' → (∀ p, 0 ≤ p → p < n → ι' 29 n0 p = R' p) → Fr (fun t i j => t = 29 ∧ i = n0) ι ι' → K ι') → bW sc 42 2 [br 5 n0, bi (k : Int), v2, v3] [] ι (bk0 K H)
  | 0, k, R, ι, v2, v3, hk, k1, hP, h1, h9, hw, hr, h => by
    refine e_CW_sortOrder_2 (bif_t (by rw [h9]; omega) (h ι R ⟨hP, fun p x y => h1 p x (by omega)⟩ hr (Fr.refl _ _)))
  | m + 1, k, R, ι, v2, v3, hk, k1, hP, h1, h9, hw, hr, h => by
    refine e_CW_sortOrder_2 (bif_f (by rw [h9]; omega) ⟨by rw [hL.2.2.2.1]; omega, ?_⟩)
    rw [hr k (by omega) (by omega)]
    refine s_sort19 hL (by omega) hn ha k R ι (by omega) hP (fun p x y z => h1 p x (by omega)) (fun x y => by omega) hw (fun p x y z => hr p x y) (fun ι' R' v2 v3 a1 a2 a3 F1 => ?_)
    rw [show (k : Int) + 1 = ((k + 1 : Nat) : Int) by omega]
    exact s_sort2 hL hn ha m (k + 1) R' ι' v2 v3 (by omega) (by omega) a1 (fun p x y => a2 p x (by omega)) (by rw [F1 5 n0 9 (by omega)]; exact h9) (fun s x y => by rw [F1 26 n0 s (by omega)]; exact hw s x y) a3 (fun ι2 R2 b1 b2 F2 => h ι2 R2 b1 b2 (F1.trans F2))
theorem s_sort {ι : bm_S} {K : bm_S → Prop} {H : Nat × Int → bm_S → Prop} {R : Int → Int} (hL : CWL n0 a) (hn : 1 ≤ n ∧ n ≤ a) (ha : a ≤ 704) (hP : PM w a n R) (h9 : ι 5 n0 9 = n) (hw : WgC ι n0 a w) (hr : ∀ p, 0 ≤ p → p < n → ι 29 n0 p = R p)
    (h : ∀ (ι' : bm_S) (R' : Int → Int), OR w a n R' → (∀ p, 0 ≤ p → p < n → ι' 29 n0 p = R' p) → Fr (fun t i j => t = 29 ∧ i = n0) ι ι' → K ι') : bC sc 42 [br 5 n0] ι (bk0 K H) :=
  e_CW_sortOrder_0 (s_sort2 hL hn.2 ha (n - 1).toNat 1 R ι _ _ (by omega) (by omega) hP (fun p x y => by omega) h9 hw hr h)
end Sorting
