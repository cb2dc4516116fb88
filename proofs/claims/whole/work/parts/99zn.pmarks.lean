/-! pack: lengths as marks -/
section PMarks
variable {sc : bm_Sc} {H : Nat × Int → bm_S → Prop} {K : bm_S → Prop} {ι : bm_S} {L : Int → Int} {a n0 st e : Int}
def zr (L : Int → Int) (e : Int) : Nat → Int → Int
  | 0, _ => 0
  | m + 1, s => if s < e ∧ L s = 0 then 1 + zr L e m (s + 1) else 0
theorem zr_of : ∀ (m : Nat) (s r : Int), 0 ≤ r → (∀ i, 0 ≤ i → i < r → s + i < e ∧ L (s + i) = 0) → (m ≤ r ∨ ¬ (s + r < e ∧ L (s + r) = 0)) → zr L e m s = min r m
  | 0, s, r, r0, h1, h2 => by show (0 : Int) = min r ((0 : Nat) : Int); omega
  | m + 1, s, r, r0, h1, h2 => by
    show (if s < e ∧ L s = 0 then 1 + zr L e m (s + 1) else 0) = min r ((m + 1 : Nat) : Int)
    by_cases z : r = 0
    · rw [if_neg (by
        rcases h2 with h2 | h2
        · omega
        · rw [z, show s + 0 = s by omega] at h2; exact h2)]
      omega
    · have q := h1 0 (by omega) (by omega)
      rw [show s + 0 = s by omega] at q
      rw [if_pos q, zr_of m (s + 1) (r - 1) (by omega) (fun i x y => by have := h1 (i + 1) (by omega) (by omega); rw [show s + (i + 1) = s + 1 + i by omega] at this; exact this) (by
        rcases h2 with h2 | h2
        · exact Or.inl (by omega)
        · exact Or.inr (by rw [show s + 1 + (r - 1) = s + r by omega]; exact h2))]
      omega
theorem zr_rg (L : Int → Int) (e : Int) : ∀ (m : Nat) (s : Int), 0 ≤ zr L e m s ∧ zr L e m s ≤ m ∧ (s ≤ e → s + zr L e m s ≤ e)
  | 0, s => by show 0 ≤ 0 ∧ (0 : Int) ≤ ((0 : Nat) : Int) ∧ _; exact ⟨by omega, by omega, fun h => by show s + 0 ≤ e; omega⟩
  | m + 1, s => by
    have := zr_rg L e m (s + 1)
    show 0 ≤ (if s < e ∧ L s = 0 then 1 + zr L e m (s + 1) else 0) ∧ (if s < e ∧ L s = 0 then 1 + zr L e m (s + 1) else 0) ≤ ((m + 1 : Nat) : Int) ∧ (s ≤ e → s + (if s < e ∧ L s = 0 then 1 + zr L e m (s + 1) else 0) ≤ e)
    split <;> omega
/-- behind the last sign that is there -/
def eb (L : Int → Int) : Nat → Int
  | 0 => 0
  | s + 1 => if 0 < L s then (s : Int) + 1 else eb L s
theorem eb_rg (L : Int → Int) : ∀ s : Nat, 0 ≤ eb L s ∧ eb L s ≤ s ∧ (0 < eb L s → 0 < L (eb L s - 1))
  | 0 => ⟨Int.le_refl 0, Int.le_refl 0, fun h => by have : eb L 0 = 0 := rfl; omega⟩
  | s + 1 => by
    have := eb_rg L s
    have e1 : eb L (s + 1) = if 0 < L s then (s : Int) + 1 else eb L s := rfl
    by_cases z : 0 < L s
    · rw [e1, if_pos z, show (s : Int) + 1 - 1 = s by omega]; exact ⟨by omega, by omega, fun _ => z⟩
    · rw [e1, if_neg z]; exact ⟨this.1, by omega, this.2.2⟩
def mst (L : Int → Int) (e : Int) : Nat → Int × Int
  | 0 => (0, 0)
  | k + 1 => if 3 ≤ zr L e 10 (mst L e k).1 ∧ (mst L e k).2 ≠ 17 then ((mst L e k).1 + zr L e 10 (mst L e k).1, 17) else ((mst L e k).1 + 1, L (mst L e k).1)
def mkk (L : Int → Int) (e : Int) (k : Nat) : Int := (mst L e (k + 1)).2
def rnn (L : Int → Int) (e : Int) (k : Nat) : Int := (mst L e (k + 1)).1 - (mst L e k).1
theorem mst_s (k : Nat) : mst L e (k + 1) = if 3 ≤ zr L e 10 (mst L e k).1 ∧ (mst L e k).2 ≠ 17 then ((mst L e k).1 + zr L e 10 (mst L e k).1, 17) else ((mst L e k).1 + 1, L (mst L e k).1) := rfl
theorem mst_in (k : Nat) : (mst L e k).1 + 1 ≤ (mst L e (k + 1)).1 := by
  rw [mst_s]
  by_cases z : 3 ≤ zr L e 10 (mst L e k).1 ∧ (mst L e k).2 ≠ 17
  · rw [if_pos z]; show _ ≤ (mst L e k).1 + zr L e 10 (mst L e k).1; omega
  · rw [if_neg z]; show _ ≤ (mst L e k).1 + 1; omega
theorem mst_ge : ∀ k : Nat, (k : Int) ≤ (mst L e k).1
  | 0 => Int.le_refl 0
  | k + 1 => by have := mst_ge k; have := mst_in (L := L) (e := e) k; omega
def mcn (L : Int → Int) (e : Int) : Nat → Nat → Nat
  | 0, k => k
  | m + 1, k => if e ≤ (mst L e k).1 then k else mcn L e m (k + 1)
theorem mcn_ok : ∀ (m k : Nat), e ≤ k + m → (∀ i : Nat, i < k → (mst L e i).1 < e) → (∀ i : Nat, i < mcn L e m k → (mst L e i).1 < e) ∧ e ≤ (mst L e (mcn L e m k)).1
  | 0, k, h1, h2 => ⟨h2, by have := mst_ge (L := L) (e := e) k; show e ≤ (mst L e k).1; omega⟩
  | m + 1, k, h1, h2 => by
    have e1 : mcn L e (m + 1) k = if e ≤ (mst L e k).1 then k else mcn L e m (k + 1) := rfl
    by_cases z : e ≤ (mst L e k).1
    · rw [e1, if_pos z]; exact ⟨h2, z⟩
    · rw [e1, if_neg z]
      exact mcn_ok m (k + 1) (by omega) (fun i hi => by
        by_cases y : i = k
        · rw [y]; omega
        · exact h2 i (by omega))
def mM (L : Int → Int) (e : Int) : Nat := mcn L e e.toNat 0
theorem mM_ok (he : 0 ≤ e) : (∀ i : Nat, i < mM L e → (mst L e i).1 < e) ∧ e ≤ (mst L e (mM L e)).1 := mcn_ok e.toNat 0 (by omega) (fun i hi => by omega)
theorem mM_le (he : 0 ≤ e) : (mM L e : Int) ≤ e := by
  by_cases z : mM L e = 0
  · omega
  · have := (mM_ok (L := L) he).1 (mM L e - 1) (by omega)
    have := mst_ge (L := L) (e := e) (mM L e - 1)
    omega
theorem mkk_rg (hL : ∀ s, 0 ≤ s → s < e → 0 ≤ L s ∧ L s ≤ 15) (he : 0 ≤ e) {k : Nat} (hk : k < mM L e) : 0 ≤ mkk L e k ∧ mkk L e k < 18 ∧ (mkk L e k = 17 → 3 ≤ rnn L e k ∧ rnn L e k ≤ 10) ∧ 1 ≤ rnn L e k := by
  have h1 := (mM_ok (L := L) he).1 k hk
  have h2 := mst_ge (L := L) (e := e) k
  have h3 := hL (mst L e k).1 (by omega) h1
  have h4 := zr_rg L e 10 (mst L e k).1
  unfold mkk rnn
  rw [mst_s]
  by_cases z : 3 ≤ zr L e 10 (mst L e k).1 ∧ (mst L e k).2 ≠ 17
  · rw [if_pos z]
    show (0 : Int) ≤ 17 ∧ (17 : Int) < 18 ∧ ((17 : Int) = 17 → 3 ≤ (mst L e k).1 + zr L e 10 (mst L e k).1 - (mst L e k).1 ∧ (mst L e k).1 + zr L e 10 (mst L e k).1 - (mst L e k).1 ≤ 10) ∧ 1 ≤ (mst L e k).1 + zr L e 10 (mst L e k).1 - (mst L e k).1
    omega
  · rw [if_neg z]
    show 0 ≤ L (mst L e k).1 ∧ L (mst L e k).1 < 18 ∧ (L (mst L e k).1 = 17 → 3 ≤ (mst L e k).1 + 1 - (mst L e k).1 ∧ (mst L e k).1 + 1 - (mst L e k).1 ≤ 10) ∧ 1 ≤ (mst L e k).1 + 1 - (mst L e k).1
    omega
/-! comp -/
theorem s_zeros4 {K : Int → bm_S → Prop} {s : Int} (hL : CWL n0 a) (ha : a ≤ 704) (hs : 0 ≤ s ∧ s < a) (h27 : ∀ q, 0 ≤ q → q < a → ι 27 n0 q = L q) (h : K (zr L a 10 s) ι) : ∀ (m : Nat) (j : Int), j + m = 10 → 0 ≤ j → (∀ i, 0 ≤ i → i < j → s + i < a ∧ L (s + i) = 0) → bW sc 49 4 [br 5 n0, bi s, bi j, bi (s + j)] [] ι (bk1 K H) := by
  intro m
  induction m with
  | zero =>
    intro j hj j0 hz
    rw [zr_of 10 s j j0 hz (Or.inl (by omega))] at h
    rw [show min j ((10 : Nat) : Int) = j by omega] at h
    refine e_CW_zerosFrom_4 (bif_i (fun _ => h) (fun _ => ⟨by omega, bif_t (by omega) h⟩))
  | succ m ih =>
    intro j hj j0 hz
    refine e_CW_zerosFrom_4 ?_
    rw [hL.2.1]
    have done : ¬ (s + j < a ∧ L (s + j) = 0) → K j ι := fun y => by
      rw [zr_of 10 s j j0 hz (Or.inr y)] at h
      rw [show min j ((10 : Nat) : Int) = j by omega] at h
      exact h
    refine bif_i (fun z => done (by omega)) (fun z => ⟨by omega, bif_f (by omega) ⟨by omega, ?_⟩⟩)
    rw [h27 (s + j) (by omega) (by omega)]
    refine bif_i (fun y => ⟨by omega, by omega, ?_⟩) (fun y => done (fun q => y q.2))
    rw [show s + j + 1 = s + (j + 1) by omega]
    refine ih (j + 1) (by omega) (by omega) (fun i x y2 => ?_)
    by_cases q : i = j
    · rw [q]; exact ⟨by omega, y⟩
    · exact hz i x (by omega)
theorem s_zeros {K : Int → bm_S → Prop} {s : Int} (hL : CWL n0 a) (ha : a ≤ 704) (hs : 0 ≤ s ∧ s < a) (h27 : ∀ q, 0 ≤ q → q < a → ι 27 n0 q = L q) (h : K (zr L a 10 s) ι) : bC sc 49 [br 5 n0, bi s] ι (bk1 K H) := by
  have := s_zeros4 (sc := sc) (H := H) hL ha hs h27 h 10 0 (by omega) (by omega) (fun i x y => by omega)
  rw [show s + 0 = s by omega] at this
  exact e_CW_zerosFrom_0 this
theorem zr_ae (he : e ≤ a) (hl : 0 < e → 0 < L (e - 1)) : ∀ (m : Nat) (s : Int), 0 ≤ s → s < e → zr L a m s = zr L e m s
  | 0, _, _, _ => rfl
  | m + 1, s, s0, s1 => by
    show (if s < a ∧ L s = 0 then 1 + zr L a m (s + 1) else 0) = (if s < e ∧ L s = 0 then 1 + zr L e m (s + 1) else 0)
    by_cases z : L s = 0
    · have ne : s + 1 < e := by
        by_cases y : s + 1 = e
        · have := hl (by omega); rw [show e - 1 = s by omega] at this; omega
        · omega
      rw [if_pos ⟨by omega, z⟩, if_pos ⟨s1, z⟩, zr_ae he hl m (s + 1) (by omega) ne]
    · rw [if_neg (fun y => z y.2), if_neg (fun y => z y.2)]
abbrev fPm (n0 : Int) (t : Nat) (i j : Int) : Prop := i = n0 ∧ (t = 30 ∨ t = 31 ∨ t = 5 ∧ j = 10)
def MkC (ι : bm_S) (n0 : Int) (L : Int → Int) (e : Int) (k : Nat) : Prop := ι 5 n0 10 = k ∧ ∀ i : Nat, i < k → ι 30 n0 i = mkk L e i ∧ ι 31 n0 i = rnn L e i
theorem s_list48 (hL : CWL n0 a) (ha : a ≤ 704) (he : 0 ≤ e ∧ e ≤ a) (hl : 0 < e → 0 < L (e - 1)) (hLr : ∀ s, 0 ≤ s → s < a → 0 ≤ L s ∧ L s ≤ 15) : ∀ (m k : Nat) (ι : bm_S) (v5 v6 : bm_V), k + m = mM L e → MkC ι n0 L e k → (∀ q, 0 ≤ q → q < a → ι 27 n0 q = L q) → (∀ ι' : bm_S, MkC ι' n0 L e (mM L e) → Fr (fPm n0) ι ι' → K ι') → bW sc 48 48 [br 5 n0, bi e, bi (mst L e k).2, bi (mst L e k).1, bi (k : Int), v5, v6] [] ι (bk0 K H)
  | 0, k, ι, v5, v6, hk, hM, h27, h => by
    have q := (mM_ok (L := L) he.1).2
    rw [show mM L e = k by omega] at q h
    exact e_CW_listMarks_48 (bif_i (fun _ => h ι hM (Fr.refl _ _)) (fun _ => bif_t q (h ι hM (Fr.refl _ _))))
  | m + 1, k, ι, v5, v6, hk, hM, h27, h => by
    have q := (mM_ok (L := L) he.1).1 k (by omega)
    have q2 := mst_ge (L := L) (e := e) k
    have hr := hLr (mst L e k).1 (by omega) (by omega)
    have hzr := zr_rg L e 10 (mst L e k).1
    have hs := mst_s (L := L) (e := e) k
    have hin := mst_in (L := L) (e := e) k
    obtain ⟨s, hs1⟩ : ∃ s, s = (mst L e k).1 := ⟨_, rfl⟩
    obtain ⟨b, hb1⟩ : ∃ b, b = (mst L e k).2 := ⟨_, rfl⟩
    rw [← hs1] at q q2 hr hzr hin
    rw [← hs1, ← hb1] at hs ⊢
    -- one mark more
    have step : ∀ (x r : Int) (v5 v6 : bm_V), mst L e (k + 1) = (s + r, x) → bW sc 48 48 [br 5 n0, bi e, bi x, bi (s + r), bi ((k : Int) + 1), v5, v6] [] (up (up (up ι 30 n0 (k : Int) x) 31 n0 (k : Int) r) 5 n0 10 ((k : Int) + 1)) (bk0 K H) := fun x r v5 v6 hx => by
      have F1 : Fr (fPm n0) ι (up (up (up ι 30 n0 (k : Int) x) 31 n0 (k : Int) r) 5 n0 10 ((k : Int) + 1)) := (((Fr.refl _ _).u (by omega)).u (by omega)).u (by omega)
      have ih := s_list48 hL ha he hl hLr m (k + 1) (up (up (up ι 30 n0 (k : Int) x) 31 n0 (k : Int) r) 5 n0 10 ((k : Int) + 1)) v5 v6 (by omega) ⟨by rw [up_s]; omega, fun i hi => ?_⟩ (fun q x y => by rw [F1 27 n0 q (by omega)]; exact h27 q x y) (fun ι' b F2 => h ι' b (F1.trans F2))
      · rw [hx, show ((k + 1 : Nat) : Int) = (k : Int) + 1 by omega] at ih; exact ih
      · by_cases z : i = k
        · rw [z, up_k (by decide), up_k (by decide), up_s, up_k (by decide), up_s]
          unfold mkk rnn
          rw [hx, ← hs1]
          exact ⟨rfl, by show r = s + r - s; omega⟩
        · rw [up_k (by decide), up_k (by decide), up_j (by omega), up_k (by decide), up_j (by omega), up_k (by decide)]
          exact hM.2 i (by omega)
    refine e_CW_listMarks_48 (bif_f (by omega) (bif_f (by omega) (s_zeros hL ha ⟨by omega, by omega⟩ h27 ?_)))
    rw [zr_ae he.2 hl 10 s (by omega) q, hL.2.1, hL.2.2.2.2.1, hL.2.2.2.2.2.1, h27 s (by omega) (by omega), hM.1]
    simp only [up_s]
    refine bif_i (fun z => ⟨by omega, by omega, by omega, by omega, by omega, by omega, by omega, step _ _ _ _ ?_⟩) (fun z => bif_i (fun y => ⟨by omega, by omega, by omega, by omega, by omega, by omega, by omega, step _ _ _ _ ?_⟩) (fun y => ⟨by omega, by omega, by omega, by omega, by omega, by omega, step _ _ _ _ ?_⟩))
    · rw [hs, if_neg (by omega)]
    · rw [hs, if_neg (fun w => w.2 y)]
    · rw [hs, if_pos ⟨by omega, y⟩]
theorem s_list4 {Q : bm_O → bm_S → Prop} {v3 v4 v5 v6 : bm_V} (hL : CWL n0 a) (ha : a ≤ 704) (h27 : ∀ q, 0 ≤ q → q < a → ι 27 n0 q = L q) (h : bW sc 48 48 [br 5 n0, bi (eb L a.toNat), bi 0, bi 0, bi 0, v5, v6] [] (up ι 5 n0 10 0) Q) : ∀ (m s : Nat), (s : Int) + m = a → bW sc 48 4 [br 5 n0, bi (eb L s), bi (s : Int), v3, v4, v5, v6] [] ι Q
  | 0, s, hs => by
    rw [show s = a.toNat by omega]
    exact e_CW_listMarks_4 (bif_t (by rw [hL.2.1]; omega) h)
  | m + 1, s, hs => by
    have ih := s_list4 (v3 := v3) (v4 := v4) hL ha h27 h m (s + 1) (by omega)
    have e1 : eb L (s + 1) = if 0 < L s then (s : Int) + 1 else eb L s := rfl
    rw [e1, show ((s + 1 : Nat) : Int) = (s : Int) + 1 by omega] at ih
    refine e_CW_listMarks_4 ?_
    rw [hL.2.1, h27 s (by omega) (by omega)]
    refine bif_f (by omega) ⟨by omega, bif_i (fun z => ⟨by omega, ?_⟩) (fun z => ⟨by omega, by omega, ?_⟩)⟩
    · rw [if_neg (by omega)] at ih; exact ih
    · rw [if_pos (by omega)] at ih; exact ih
theorem s_list (hL : CWL n0 a) (ha : 0 ≤ a ∧ a ≤ 704) (hLr : ∀ s, 0 ≤ s → s < a → 0 ≤ L s ∧ L s ≤ 15) (h27 : ∀ q, 0 ≤ q → q < a → ι 27 n0 q = L q) (h : ∀ ι' : bm_S, MkC ι' n0 L (eb L a.toNat) (mM L (eb L a.toNat)) → Fr (fPm n0) ι ι' → K ι') : bC sc 48 [br 5 n0] ι (bk0 K H) := by
  have er := eb_rg L a.toNat
  have F1 : Fr (fPm n0) ι (up ι 5 n0 10 0) := (Fr.refl _ _).u (by omega)
  exact e_CW_listMarks_0 (s_list4 (L := L) hL ha.2 h27 (s_list48 hL ha.2 ⟨er.1, by omega⟩ er.2.2 hLr (mM L (eb L a.toNat)) 0 _ _ _ (by omega) ⟨by rw [up_s]; rfl, fun i hi => by omega⟩ (fun q x y => by rw [F1 27 n0 q (by omega)]; exact h27 q x y) (fun ι' b F2 => h ι' b (F1.trans F2))) a.toNat 0 (by omega))
/-! the other -/
abbrev gPm (t : Nat) (_ j : Int) : Prop := t = 94 ∨ t = 95 ∨ t = 13 ∧ j = 50
def MkM (ι : bm_S) (L : Int → Int) (e : Int) (k : Nat) : Prop := ι 13 0 50 = k ∧ ∀ i : Nat, i < k → ι 94 0 i = mkk L e i ∧ (mkk L e i = 17 → ι 95 0 i = rnn L e i)
theorem m_list46 {v2 : bm_V} (ha : a ≤ 704) (hst : 0 ≤ st ∧ st + a ≤ 18000) (he : 0 ≤ e ∧ e ≤ a) (hLr : ∀ s, 0 ≤ s → s < a → 0 ≤ L s ∧ L s ≤ 15) : ∀ (m k : Nat) (ι : bm_S) (v5 v6 : bm_V), k + m = mM L e → MkM ι L e k → (∀ q, 0 ≤ q → q < a → ι 71 0 (st + q) = L q) → (∀ ι' : bm_S, MkM ι' L e (mM L e) → Fr gPm ι ι' → K ι') → bW sc 242 46 [br 13 0, bi st, v2, bi e, bi (mst L e k).1, v5, v6] [] ι (bk0 K H)
  | 0, k, ι, v5, v6, hk, hM, h27, h => by
    have q := (mM_ok (L := L) he.1).2
    rw [show mM L e = k by omega] at q h
    exact e_M_findMarks_46 (bif_t q (h ι hM (Fr.refl _ _)))
  | m + 1, k, ι, v5, v6, hk, hM, h27, h => by
    have q := (mM_ok (L := L) he.1).1 k (by omega)
    have q2 := mst_ge (L := L) (e := e) k
    have hr := hLr (mst L e k).1 (by omega) (by omega)
    have hs := mst_s (L := L) (e := e) k
    have hMl := mM_le (L := L) he.1
    obtain ⟨s, hs1⟩ : ∃ s, s = (mst L e k).1 := ⟨_, rfl⟩
    obtain ⟨b, hb1⟩ : ∃ b, b = (mst L e k).2 := ⟨_, rfl⟩
    rw [← hs1] at q q2 hr
    rw [← hs1, ← hb1] at hs
    rw [← hs1]
    have step : ∀ (x y r : Int) (v5 v6 : bm_V), mst L e (k + 1) = (s + r, x) → (x = 17 → y = r) → bC sc 241 [br 13 0, bi x, bi y] ι (bk0 (fun ι1 => (bm_rg (s + r)) ∧ bW sc 242 46 [br 13 0, bi st, v2, bi e, bi (s + r), v5, v6] [] ι1 (bk0 K H)) H) := fun x y r v5 v6 hx hy => by
      refine e_M_putMark_0 ?_
      rw [hM.1]
      have F1 : Fr gPm ι (up (up (up ι 94 0 (k : Int) x) 95 0 (k : Int) y) 13 0 50 ((k : Int) + 1)) := (((Fr.refl _ _).u (by omega)).u (by omega)).u (by omega)
      have ih := m_list46 (v2 := v2) ha hst he hLr m (k + 1) (up (up (up ι 94 0 (k : Int) x) 95 0 (k : Int) y) 13 0 50 ((k : Int) + 1)) v5 v6 (by omega) ⟨by rw [up_s]; omega, fun i hi => ?_⟩ (fun q x y => by rw [F1 71 0 _ (by omega)]; exact h27 q x y) (fun ι' b F2 => h ι' b (F1.trans F2))
      · have hrs : s + r ≤ e + 1 := by
          have h2 := zr_rg L e 10 s
          rw [hx] at hs
          by_cases z : 3 ≤ zr L e 10 s ∧ b ≠ 17
          · rw [if_pos z] at hs
            have : s + r = s + zr L e 10 s := congrArg Prod.fst hs
            omega
          · rw [if_neg z] at hs
            have : s + r = s + 1 := congrArg Prod.fst hs
            omega
        have hin := mst_in (L := L) (e := e) k
        rw [hx, ← hs1] at hin
        have hin' : s + 1 ≤ s + r := hin
        rw [hx] at ih
        exact ⟨by omega, by omega, by omega, by omega, ih⟩
      · by_cases z : i = k
        · rw [z, up_k (by decide), up_k (by decide), up_s, up_k (by decide), up_s]
          unfold mkk rnn
          rw [hx, ← hs1]
          exact ⟨rfl, fun w => by show y = s + r - s; have := hy w; omega⟩
        · rw [up_k (by decide), up_k (by decide), up_j (by omega), up_k (by decide), up_j (by omega), up_k (by decide)]
          exact hM.2 i (by omega)
    have hb94 : (k : Int) ≠ 0 → ι 94 0 ((k : Int) - 1) = b := fun hk0 => by
      have := (hM.2 (k - 1) (by omega)).1
      rw [show ((k - 1 : Nat) : Int) = (k : Int) - 1 by omega] at this
      unfold mkk at this
      rw [show k - 1 + 1 = k by omega, ← hb1] at this
      exact this
    -- the run of zeros
    have go : ∀ (f : Nat) (j : Int) (v6 : bm_V), j + f = e - s → 0 ≤ j → (∀ i, 0 ≤ i → i < j → s + i < e ∧ L (s + i) = 0) → bW sc 242 55 [br 13 0, bi st, v2, bi e, bi s, bi j, v6] [] ι (bk0 K H) := by
      intro f
      induction f with
      | zero =>
        intro j v6 hj j0 hz
        have ez := zr_of 10 s j j0 hz (Or.inr (by omega))
        refine e_M_findMarks_55 ⟨by omega, bif_t (by omega) ?_⟩
        rw [h27 s (by omega) (by omega), hM.1]
        rw [ez] at hs
        refine bif_i (fun z => ⟨by omega, by omega, step _ _ 1 _ _ (by rw [hs, if_neg (by omega)]) (fun y => by omega)⟩) (fun z => bif_i (fun y => ?_) (fun y => ⟨by omega, by omega, bif_i (fun x => ⟨by omega, by omega, step _ _ 1 _ _ (by rw [hs, if_neg (fun w => w.2 (by rw [← hb94 y]; exact x))]) (fun y => by omega)⟩) (fun x => ?_)⟩))
        · have hb : b = 0 := by rw [hb1, show k = 0 by omega]; rfl
          refine bif_i (fun w => step _ _ 10 _ _ (by rw [hs, if_pos (by omega), show min j ((10 : Nat) : Int) = 10 by omega]) (fun _ => rfl)) (fun w => step _ _ j _ _ (by rw [hs, if_pos (by omega), show min j ((10 : Nat) : Int) = j by omega]) (fun _ => rfl))
        · have hb : b ≠ 17 := fun e2 => x (by rw [hb94 y]; exact e2)
          refine bif_i (fun w => step _ _ 10 _ _ (by rw [hs, if_pos (by omega), show min j ((10 : Nat) : Int) = 10 by omega]) (fun _ => rfl)) (fun w => step _ _ j _ _ (by rw [hs, if_pos (by omega), show min j ((10 : Nat) : Int) = j by omega]) (fun _ => rfl))
      | succ f ih =>
        intro j v6 hj j0 hz
        refine e_M_findMarks_55 ⟨by omega, bif_f (by omega) ⟨by omega, by omega, by omega, ?_⟩⟩
        rw [show st + s + j = st + (s + j) by omega, h27 (s + j) (by omega) (by omega)]
        refine bif_i (fun y => ⟨by omega, ih (j + 1) _ (by omega) (by omega) (fun i x z => ?_)⟩) (fun y => ?_)
        · by_cases w : i = j
          · rw [w]; exact ⟨by omega, y⟩
          · exact hz i x (by omega)
        · have ez := zr_of 10 s j j0 hz (Or.inr (fun w => y w.2))
          rw [h27 s (by omega) (by omega), hM.1]
          rw [ez] at hs
          refine bif_i (fun z => ⟨by omega, by omega, step _ _ 1 _ _ (by rw [hs, if_neg (by omega)]) (fun y => by omega)⟩) (fun z => bif_i (fun y => ?_) (fun y => ⟨by omega, by omega, bif_i (fun x => ⟨by omega, by omega, step _ _ 1 _ _ (by rw [hs, if_neg (fun w => w.2 (by rw [← hb94 y]; exact x))]) (fun y => by omega)⟩) (fun x => ?_)⟩))
          · have hb : b = 0 := by rw [hb1, show k = 0 by omega]; rfl
            refine bif_i (fun w => step _ _ 10 _ _ (by rw [hs, if_pos (by omega), show min j ((10 : Nat) : Int) = 10 by omega]) (fun _ => rfl)) (fun w => step _ _ j _ _ (by rw [hs, if_pos (by omega), show min j ((10 : Nat) : Int) = j by omega]) (fun _ => rfl))
          · have hb : b ≠ 17 := fun e2 => x (by rw [hb94 y]; exact e2)
            refine bif_i (fun w => step _ _ 10 _ _ (by rw [hs, if_pos (by omega), show min j ((10 : Nat) : Int) = 10 by omega]) (fun _ => rfl)) (fun w => step _ _ j _ _ (by rw [hs, if_pos (by omega), show min j ((10 : Nat) : Int) = j by omega]) (fun _ => rfl))
    exact e_M_findMarks_46 (bif_f (by omega) (go (e - s).toNat 0 _ (by omega) (by omega) (fun i x y => by omega)))
theorem m_list5 {Q : bm_O → bm_S → Prop} {v5 v6 : bm_V} (ha : a ≤ 704) (hst : 0 ≤ st ∧ st + a ≤ 18000) (h27 : ∀ q, 0 ≤ q → q < a → ι 71 0 (st + q) = L q) (h : bW sc 242 46 [br 13 0, bi st, bi a, bi (eb L a.toNat), bi 0, v5, v6] [] (up ι 13 0 50 0) Q) : ∀ (m s : Nat), (s : Int) + m = a → bW sc 242 5 [br 13 0, bi st, bi a, bi (eb L s), bi (s : Int), v5, v6] [] ι Q
  | 0, s, hs => by
    rw [show s = a.toNat by omega]
    exact e_M_findMarks_5 (bif_t (by omega) h)
  | m + 1, s, hs => by
    have ih := m_list5 (v5 := v5) (v6 := v6) ha hst h27 h m (s + 1) (by omega)
    have e1 : eb L (s + 1) = if 0 < L s then (s : Int) + 1 else eb L s := rfl
    rw [e1, show ((s + 1 : Nat) : Int) = (s : Int) + 1 by omega] at ih
    refine e_M_findMarks_5 ?_
    rw [h27 s (by omega) (by omega)]
    refine bif_f (by omega) ⟨by omega, by omega, bif_i (fun z => ⟨by omega, ?_⟩) (fun z => ⟨by omega, by omega, ?_⟩)⟩
    · rw [if_neg (by omega)] at ih; exact ih
    · rw [if_pos (by omega)] at ih; exact ih
theorem m_list (ha : 0 ≤ a ∧ a ≤ 704) (hst : 0 ≤ st ∧ st + a ≤ 18000) (hLr : ∀ s, 0 ≤ s → s < a → 0 ≤ L s ∧ L s ≤ 15) (h27 : ∀ q, 0 ≤ q → q < a → ι 71 0 (st + q) = L q) (h : ∀ ι' : bm_S, MkM ι' L (eb L a.toNat) (mM L (eb L a.toNat)) → Fr gPm ι ι' → K ι') : bC sc 242 [br 13 0, bi st, bi a] ι (bk0 K H) := by
  have er := eb_rg L a.toNat
  have F1 : Fr gPm ι (up ι 13 0 50 0) := (Fr.refl _ _).u (by omega)
  exact e_M_findMarks_0 (m_list5 (L := L) ha.2 hst h27 (m_list46 ha.2 hst ⟨er.1, by omega⟩ hLr (mM L (eb L a.toNat)) 0 _ _ _ (by omega) ⟨by rw [up_s]; rfl, fun i hi => by omega⟩ (fun q x y => by rw [F1 71 0 _ (by omega)]; exact h27 q x y) (fun ι' b F2 => h ι' b (F1.trans F2))) a.toNat 0 (by omega))
end PMarks
