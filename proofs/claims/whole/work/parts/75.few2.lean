/-! codes told shortly: lengths -/
section Few2
variable {sc : bm_Sc} {β : Int → Int} {lim : Int}
def sl (n t k : Int) : Int := if n = 1 then 0 else if n = 2 then 1 else if n = 3 then (if k = 0 then 1 else 2) else if t = 0 then 2 else if k = 0 then 1 else if k = 1 then 2 else 3
def lf (T : Int → Int) (n t : Int) : Nat → (Int → Int)
  | 0 => fun _ => 0
  | k + 1 => fs (lf T n t k) (T k) (sl n t k)
theorem sl_rg {n t k : Int} : 0 ≤ sl n t k ∧ sl n t k ≤ 3 ∧ (n ≠ 1 → 1 ≤ sl n t k) := by unfold sl; repeat' split <;> omega
theorem lf_out {T : Int → Int} {n t : Int} : ∀ (k : Nat) (s : Int), (∀ j : Int, 0 ≤ j → j < k → T j ≠ s) → lf T n t k s = 0
  | 0, _, _ => rfl
  | k + 1, s, h => by
    show fs (lf T n t k) (T k) (sl n t k) s = 0
    rw [fs_n (fun e => h k (by omega) (by omega) e.symm)]
    exact lf_out k s (fun j a b => h j a (by omega))
theorem lf_rg {T : Int → Int} {n t : Int} : ∀ (k : Nat) (s : Int), 0 ≤ lf T n t k s ∧ lf T n t k s ≤ 3
  | 0, _ => by show (0 : Int) ≤ 0 ∧ (0 : Int) ≤ 3; omega
  | k + 1, s => by
    show 0 ≤ fs (lf T n t k) (T k) (sl n t k) s ∧ fs (lf T n t k) (T k) (sl n t k) s ≤ 3
    have h1 := lf_rg (T := T) (n := n) (t := t) k s
    have h2 := sl_rg (n := n) (t := t) (k := k)
    unfold fs
    split <;> omega
theorem ks_lf {T : Int → Int} {n t : Int} {a : Nat} (hT : ∀ j, 0 ≤ j → j < n → good T a j ∧ 0 ≤ T j) : ∀ k : Nat, (k : Int) ≤ n → ks (lf T n t (k + 1)) a = ks (lf T n t k) a + (if (k : Int) < n then Kw (sl n t k) else ks (lf T n t (k + 1)) a - ks (lf T n t k) a) := by
  intro k hk
  by_cases q : (k : Int) < n
  · rw [if_pos q]
    have h := hT k (by omega) q
    show ks (fs (lf T n t k) (T k) (sl n t k)) a = _
    rw [ks_fs _ _ _ _ h.2, if_pos h.1.1, lf_out k (T k) (fun j a b => h.1.2 j a b), Kw_0]
    omega
  · rw [if_neg q]; omega
theorem lf_ok {T : Int → Int} {n t : Int} {a : Nat} (hn : 2 ≤ n ∧ n ≤ 4) (ht : t = 0 ∨ t = 1) (hT : ∀ j, 0 ≤ j → j < n → good T a j ∧ 0 ≤ T j) : Fc (lf T n t n.toNat) a 16 = 65536 := by
  rw [Fc_ks]
  have z : ks (lf T n t 0) a = 0 := ks_zero (fun _ _ => rfl)
  have k0 : ks (lf T _ t 1) a = ks (lf T _ t 0) a + (if ((0 : Nat) : Int) < _ then Kw (sl _ t ((0 : Nat) : Int)) else ks (lf T _ t 1) a - ks (lf T _ t 0) a) := ks_lf (t := t) hT 0 (by omega)
  have k1 : ks (lf T _ t 2) a = ks (lf T _ t 1) a + (if ((1 : Nat) : Int) < _ then Kw (sl _ t ((1 : Nat) : Int)) else ks (lf T _ t 2) a - ks (lf T _ t 1) a) := ks_lf (t := t) hT 1 (by omega)
  have k2 : ks (lf T _ t 3) a = ks (lf T _ t 2) a + (if ((2 : Nat) : Int) < _ then Kw (sl _ t ((2 : Nat) : Int)) else ks (lf T _ t 3) a - ks (lf T _ t 2) a) := ks_lf (t := t) hT 2 (by omega)
  rw [if_pos (by omega)] at k0 k1
  have e1 : Kw 1 = 32768 := by decide
  have e2 : Kw 2 = 16384 := by decide
  have e3 : Kw 3 = 8192 := by decide
  rcases (show n = 2 ∨ n = 3 ∨ n = 4 by omega) with rfl | rfl | rfl
  · have s0 : sl 2 t 0 = 1 := by unfold sl; rw [if_neg (by omega), if_pos rfl]
    have s1 : sl 2 t 1 = 1 := by unfold sl; rw [if_neg (by omega), if_pos rfl]
    have s0' : sl 2 t ((0 : Nat) : Int) = 1 := s0
    have s1' : sl 2 t ((1 : Nat) : Int) = 1 := s1
    rw [s0'] at k0
    rw [s1'] at k1
    show ks (lf T 2 t 2) a = 65536
    omega
  · have s0 : sl 3 t ((0 : Nat) : Int) = 1 := by unfold sl; rw [if_neg (by omega), if_neg (by omega), if_pos rfl, if_pos (by omega)]
    have s1 : sl 3 t ((1 : Nat) : Int) = 2 := by unfold sl; rw [if_neg (by omega), if_neg (by omega), if_pos rfl, if_neg (by omega)]
    have s2 : sl 3 t ((2 : Nat) : Int) = 2 := by unfold sl; rw [if_neg (by omega), if_neg (by omega), if_pos rfl, if_neg (by omega)]
    rw [if_pos (by omega), s2] at k2
    rw [s0] at k0
    rw [s1] at k1
    show ks (lf T 3 t 3) a = 65536
    omega
  · have k3 : ks (lf T _ t 4) a = ks (lf T _ t 3) a + (if ((3 : Nat) : Int) < _ then Kw (sl _ t ((3 : Nat) : Int)) else ks (lf T _ t 4) a - ks (lf T _ t 3) a) := ks_lf (t := t) hT 3 (by omega)
    rw [if_pos (by omega)] at k2 k3
    show ks (lf T 4 t 4) a = 65536
    rcases ht with rfl | rfl
    · have s : ∀ k, sl 4 0 k = 2 := fun k => by unfold sl; rw [if_neg (by omega), if_neg (by omega), if_neg (by omega), if_pos rfl]
      rw [s] at k0 k1 k2 k3
      omega
    · have s0 : sl 4 1 ((0 : Nat) : Int) = 1 := by unfold sl; rw [if_neg (by omega), if_neg (by omega), if_neg (by omega), if_neg (by omega), if_pos (by omega)]
      have s1 : sl 4 1 ((1 : Nat) : Int) = 2 := by unfold sl; rw [if_neg (by omega), if_neg (by omega), if_neg (by omega), if_neg (by omega), if_neg (by omega), if_pos (by omega)]
      have s2 : sl 4 1 ((2 : Nat) : Int) = 3 := by unfold sl; rw [if_neg (by omega), if_neg (by omega), if_neg (by omega), if_neg (by omega), if_neg (by omega), if_neg (by omega)]
      have s3 : sl 4 1 ((3 : Nat) : Int) = 3 := by unfold sl; rw [if_neg (by omega), if_neg (by omega), if_neg (by omega), if_neg (by omega), if_neg (by omega), if_neg (by omega)]
      rw [s0] at k0
      rw [s1] at k1
      rw [s2] at k2
      rw [s3] at k3
      omega
theorem s_shortLength {ι : bm_S} {H : Nat × Int → bm_S → Prop} {K : Int → bm_S → Prop} {n k t : Int} (hn : 2 ≤ n ∧ n ≤ 4) (hk : 0 ≤ k ∧ k < n) (ht : t = 0 ∨ t = 1 ∧ n = 4) (h : K (sl n t k) ι) : bC sc 29 [bi n, bi k, bi t] ι (bk1 K H) := by
  unfold sl at h
  rw [if_neg (by omega)] at h
  refine e_CR_shortLength_0 (bif_i (fun q => ?_) (fun q => bif_i (fun q1 => ⟨by omega, by omega, ?_⟩) (fun q1 => bif_i (fun q2 => ?_) (fun q2 => ⟨by omega, by omega, ?_⟩))))
  · rw [if_pos q] at h; exact h
  · rw [if_neg q, if_pos q1] at h
    by_cases q3 : k = 0
    · rw [if_pos q3] at h; rw [show min (k + 1) (n - 1) = 1 by omega]; exact h
    · rw [if_neg q3] at h; rw [show min (k + 1) (n - 1) = 2 by omega]; exact h
  · rw [if_neg q, if_neg q1, if_pos q2] at h; exact h
  · rw [if_neg q, if_neg q1, if_neg q2] at h
    by_cases q3 : k = 0
    · rw [if_pos q3] at h; rw [show min (k + 1) (n - 1) = 1 by omega]; exact h
    · rw [if_neg q3] at h
      by_cases q4 : k = 1
      · rw [if_pos q4] at h; rw [show min (k + 1) (n - 1) = 2 by omega]; exact h
      · rw [if_neg q4] at h; rw [show min (k + 1) (n - 1) = 3 by omega]; exact h
theorem m_fewLength {ι : bm_S} {H : Nat × Int → bm_S → Prop} {K : Int → bm_S → Prop} {n k t : Int} (h : K (sl n t k) ι) : bC sc 180 [bi n, bi t, bi k] ι (bk1 K H) := by
  unfold sl at h
  refine e_M_fewLength_0 (bif_i (fun q => ?_) (fun q => bif_i (fun q1 => ?_) (fun q1 => bif_i (fun q2 => bif_i (fun q3 => ?_) (fun q3 => ?_)) (fun q2 => bif_i (fun q3 => ?_) (fun q3 => bif_i (fun q4 => ?_) (fun q4 => bif_i (fun q5 => ?_) (fun q5 => ?_)))))))
  · rw [if_pos q] at h; exact h
  · rw [if_neg q, if_pos q1] at h; exact h
  · rw [if_neg q, if_neg q1, if_pos q2, if_pos q3] at h; exact h
  · rw [if_neg q, if_neg q1, if_pos q2, if_neg q3] at h; exact h
  · rw [if_neg q, if_neg q1, if_neg q2, if_pos q3] at h; exact h
  · rw [if_neg q, if_neg q1, if_neg q2, if_neg q3, if_pos q4] at h; exact h
  · rw [if_neg q, if_neg q1, if_neg q2, if_neg q3, if_neg q4, if_pos q5] at h; exact h
  · rw [if_neg q, if_neg q1, if_neg q2, if_neg q3, if_neg q4, if_neg q5] at h; exact h
theorem s_few134 {K : bm_S → Prop} {H : Nat × Int → bm_S → Prop} {n t c : Int} {a : Nat} {T : Int → Int} {v4 : bm_V} (hn : 2 ≤ n ∧ n ≤ 4) (ht : t = 0 ∨ t = 1 ∧ n = 4) (ha : (a : Int) ≤ 704) (hcap : (a : Int) ≤ bm_L 22 c ∧ bm_L 22 c ≤ 704) (hT : ∀ j, 0 ≤ j → j < n → good T a j ∧ 0 ≤ T j) : ∀ (m k : Nat) (ι : bm_S), (k : Int) + m = n → (∀ j, 0 ≤ j → j < n → ι 25 0 j = T j) → (∀ s : Nat, s < a → ι 23 0 s = lf T n t k s) →
    (∀ ι' : bm_S, CodeC ι' c (-1) (lf T n t n.toNat) a → Fr (fun t i j => t = 23 ∨ i = c ∧ (t = 21 ∨ t = 22 ∨ t = 3 ∧ j = 2)) ι ι' → K ι') → bW sc 27 134 [br 4 0, br 3 c, bi (a : Int), bi n, v4, bi t, bi (k : Int)] [] ι (bk0 K H)
  | 0, k, ι, hk, hj, hs, h => by
    refine e_CR_readShort_134 (bif_t (by omega) ?_)
    refine s_build_23 (L := lf T n t n.toNat) ha hcap (fun s s0 => ?_) fun ι' g1 g2 => h ι' g1 (g2.wide fun t i j q => by omega)
    have := lf_rg (T := T) (n := n) (t := t) n.toNat s
    rw [hs s s0, show k = n.toNat by omega]
    exact ⟨rfl, by omega⟩
  | m + 1, k, ι, hk, hj, hs, h => by
    have hTk := hT k (by omega) (by omega)
    have hTa := hTk.1.1
    refine e_CR_readShort_134 (bif_f (by omega) ⟨by omega, s_shortLength hn (by omega) ht ?_⟩)
    rw [hj k (by omega) (by omega)]
    refine ⟨by omega, by omega, ?_⟩
    have := s_few134 (K := K) (H := H) (v4 := v4) hn ht ha hcap hT m (k + 1) (up ι 23 0 (T k) (sl n t k)) (by omega) (fun j a b => by rw [up_k (by decide)]; exact hj j a b) (fun s s0 => ?_) (fun ι' g1 g2 => h ι' g1 (((Fr.refl _ _).u (by omega)).trans g2))
    · rw [show ((k + 1 : Nat) : Int) = (k : Int) + 1 by omega] at this
      exact this
    · rw [up_at, hs s s0]
      rfl
theorem m_few132 {K : bm_S → Prop} {H : Nat × Int → bm_S → Prop} {n t st : Int} {a : Nat} {T : Int → Int} {v2 v6 : bm_V} (hn : 1 ≤ n ∧ n ≤ 4) (hst : 0 ≤ st ∧ st + a ≤ 18000) (ha : 0 < a) (hT : ∀ j, 0 ≤ j → j < n → good T a j ∧ 0 ≤ T j) : ∀ (m k : Nat) (ι : bm_S), (k : Int) + m = n → (∀ j, 0 ≤ j → j < n → ι 75 0 j = T j) → (∀ s : Nat, s < a → ι 71 0 (st + s) = lf T n t k s) →
    (∀ ι' : bm_S, (∀ s : Nat, s < a → ι' 71 0 (st + s) = lf T n t n.toNat s) → ι' 73 0 st = (if n = 1 then T 0 else -1) → Fr (fun t i j => t = 71 ∧ st ≤ j ∧ j < st + a ∨ t = 73 ∧ j = st) ι ι' → K ι') → bW sc 179 132 [br 13 0, bi st, v2, bi n, bi t, bi (k : Int), v6] [] ι (bk0 K H)
  | 0, k, ι, hk, hj, hs, h => by
    have e : k = n.toNat := by omega
    refine e_M_readFew_132 (bif_t (by omega) (bif_i (fun q => ⟨by omega, by omega, ?_⟩) (fun q => ⟨by omega, ?_⟩)))
    · exact h _ (fun s s0 => by rw [up_k (by decide), hs s s0, e]) (by rw [up_s, if_pos q, hj 0 (by omega) (by omega)]) ((Fr.refl _ _).u (by omega))
    · exact h _ (fun s s0 => by rw [up_k (by decide), hs s s0, e]) (by rw [up_s, if_neg q]) ((Fr.refl _ _).u (by omega))
  | m + 1, k, ι, hk, hj, hs, h => by
    have hTk := hT k (by omega) (by omega)
    have hTa := hTk.1.1
    refine e_M_readFew_132 (bif_f (by omega) ?_)
    rw [hj k (by omega) (by omega)]
    refine ⟨by omega, by omega, m_fewLength ⟨by omega, by omega, ?_⟩⟩
    have := m_few132 (K := K) (H := H) (v2 := v2) (v6 := v6) hn hst ha hT m (k + 1) (up ι 71 0 (st + T k) (sl n t k)) (by omega) (fun j a b => by rw [up_k (by decide)]; exact hj j a b) (fun s s0 => ?_) (fun ι' g1 g2 g3 => h ι' g1 g2 (((Fr.refl _ _).u (by omega)).trans g3))
    · rw [show ((k + 1 : Nat) : Int) = (k : Int) + 1 by omega] at this
      exact this
    · rw [up_at, hs s s0]
      show _ = fs (lf T n t k) (T k) (sl n t k) s
      unfold fs
      by_cases q : (s : Int) = T k
      · rw [if_pos (by omega), if_pos q]
      · rw [if_neg (by omega), if_neg q]
abbrev fC (c : Int) (t : Nat) (i j : Int) : Prop := fF t i j ∨ t = 23 ∨ i = c ∧ (t = 21 ∨ t = 22 ∨ t = 3 ∧ j = 2)
abbrev gC (st a : Int) (t : Nat) (i j : Int) : Prop := gF t i j ∨ t = 71 ∧ st ≤ j ∧ j < st + a ∨ t = 73 ∧ j = st
theorem lim2 {x : Int} (h : 0 ≤ x ∧ x < bm_p2 ((2 : Nat) : Int)) : x ≤ 3 := by
  have : bm_p2 ((2 : Nat) : Int) = 4 := rfl
  omega
theorem j_few {a : Nat} (hw : wfβ β lim) (ha : 2 ≤ a ∧ a ≤ 704) (p : Int) (hp0 : 0 ≤ p) (hp1 : p ≤ lim) :
    ∃ (p' r lone : Int) (L : Int → Int), p ≤ p' ∧ p' ≤ lim ∧ (r = 0 ∨ r = 12 ∨ r = 1 ∧ p' = lim) ∧ (r = 0 → CodeOK lone L a ∧ (0 ≤ lone → ∀ s : Nat, s < a → L s = 0)) ∧
    (∀ (ι : bm_S) (c : Int) (K : bm_S → Prop) (H : Nat × Int → bm_S → Prop), (a : Int) ≤ bm_L 22 c ∧ bm_L 22 c ≤ 704 → cR ι β lim p 0 → (∀ j, 0 ≤ j → j < 704 → ι 23 0 j = 0) → (∀ ι' : bm_S, cR ι' β lim p' r → (r = 0 → CodeC ι' c lone L a) → Fr (fC c) ι ι' → K ι') → bC sc 27 [br 4 0, br 3 c, bi (a : Int)] ι (bk0 K H)) ∧
    (∀ (ι : bm_S) (st : Int) (K : bm_S → Prop) (H : Nat × Int → bm_S → Prop), 0 ≤ st → st + a ≤ 18000 → mR ι β lim p → (∀ s : Nat, s < a → ι 71 0 (st + s) = 0) → (r = 0 → ∀ ι' : bm_S, mR ι' β lim p' → (∀ s : Nat, s < a → ι' 71 0 (st + s) = L s) → ι' 73 0 st = lone → Fr (gC st a) ι ι' → K ι') → (r ≠ 0 → ∀ ι' : bm_S, mR ι' β lim p' → ι' 12 0 6 = r → Fr (gC st a) ι ι' → H (12, 0) ι') → bC sc 179 [br 13 0, bi st, bi (a : Int)] ι (bk0 K H)) := by
  have w1 := hw.1
  obtain ⟨w, hw0, hw10, hwa, hwb⟩ := width_ex ((a : Int) - 1) (by omega) 10 (show (a : Int) - 1 < 1024 by omega)
  have hw10' : w ≤ 10 := by omega
  by_cases hp : p + 2 ≤ lim
  · have hv := nm_rg (p := p) w1 2
    have hv3 := lim2 hv
    generalize hN : nm β p 2 + 1 = n at *
    have hn : 1 ≤ n ∧ n ≤ 4 := by omega
    obtain ⟨p1, r1, T, i1, i2, i3, i4, i5, i6⟩ := j_few11 (sc := sc) (a := a) (n := n) (w := w) hw (by omega) hn hwa hwb ⟨hw0, hw10'⟩ n.toNat 0 (p + 2) (fun _ => 0) (by omega) (by omega) (by omega) hp (fun j j0 j1 => by omega)
    have eN : nm β p (Int.toNat 2) + 1 = n := hN
    by_cases hr : r1 = 0
    · have hT := i4 hr
      -- the entry of both
      have goC : ∀ (ι : bm_S) (c : Int) (Q : bm_O → bm_S → Prop), cR ι β lim p 0 → (∀ ι', cR ι' β lim p1 0 → (∀ j, 0 ≤ j → j < n → ι' 25 0 j = T j) → Fr fF ι ι' → bW sc 27 22 [br 4 0, br 3 c, bi (a : Int), bi n, bi w, bi n, bu] [] ι' Q) → bC sc 27 [br 4 0, br 3 c, bi (a : Int)] ι Q := by
        intro ι c Q hR h
        refine e_CR_readShort_0 (s_number hw (by omega) (by omega) hR ?_)
        rw [eN]
        refine ⟨by omega, by omega, x_bitsIn (w := w) (by omega) (by omega) hwa hwb ?_⟩
        have hF : Fr fF ι (up ι 0 0 1 (p + 2)) := (Fr.refl _ _).u (by omega)
        exact i5 _ c _ Q hR.to (fun j j0 j1 => by omega) (fun _ ι' g1 g2 g3 => h ι' g1 g2 (hF.trans g3)) (fun e => absurd hr e)
      have goM : ∀ (ι : bm_S) (st : Int) (K : bm_S → Prop) (H : Nat × Int → bm_S → Prop), mR ι β lim p → (∀ ι', mR ι' β lim p1 → (∀ j, 0 ≤ j → j < n → ι' 75 0 j = T j) → Fr gF ι ι' → ∀ v5 v6, bW sc 179 11 [br 13 0, bi st, bi (a : Int), bi n, bi n, v5, v6] [] ι' (bk0 K H)) → bC sc 179 [br 13 0, bi st, bi (a : Int)] ι (bk0 K H) := by
        intro ι st K H hR h
        refine e_M_readFew_0 (m_number hw (by omega) (by omega) hR ?_)
        rw [eN]
        refine ⟨by omega, ?_⟩
        have hF : Fr gF ι (up ι 13 0 16 (p + 2)) := (Fr.refl _ _).u (by omega)
        exact i6 _ st _ _ K H hR.to (fun j j0 j1 => by omega) (fun _ ι' g1 g2 g3 => h ι' g1 g2 (hF.trans g3)) (fun e => absurd hr e)
      by_cases hn4 : n = 4
      · -- one bit more
        by_cases hp2 : p1 + 1 ≤ lim
        · have hb := w1 p1
          have hnm : nm β p1 (Int.toNat 1) = β p1 := by
            show nm β p1 0 + β (p1 + ((0 : Nat) : Int)) * bm_p2 ((0 : Nat) : Int) = β p1
            rw [show p1 + ((0 : Nat) : Int) = p1 by omega]
            show (0 : Int) + β p1 * 1 = β p1
            omega
          refine ⟨p1 + 1, 0, -1, lf T n (β p1) n.toNat, by omega, hp2, Or.inl rfl, fun _ => ⟨⟨fun s _ => by have := lf_rg (T := T) (n := n) (t := β p1) n.toNat s; omega, Or.inr ⟨rfl, lf_ok (by omega) hb hT⟩⟩, fun e => by omega⟩, ?_, ?_⟩
          · intro ι c K H hcap hR h23 h
            refine goC ι c _ hR fun ι1 g1 g2 g3 => ?_
            refine e_CR_readShort_22 (bif_t (by omega) (bif_t hn4 (s_number hw (by omega) (by omega) g1 ?_)))
            rw [hnm]
            have hF : Fr fF ι1 (up ι1 0 0 1 (p1 + 1)) := (Fr.refl _ _).u (by omega)
            have fin : ∀ t : Int, t = β p1 → bW sc 27 134 [br 4 0, br 3 c, bi (a : Int), bi n, bi w, bi t, bi 0] [] (up ι1 0 0 1 (p1 + 1)) (bk0 K H) := by
              intro t et
              rw [et]
              refine s_few134 (by omega) (by omega) (by omega) hcap hT n.toNat 0 _ (by omega) (fun j a b => by rw [up_k (by decide)]; exact g2 j a b) (fun s s0 => ?_) fun ι' k1 k2 => ?_
              · rw [up_k (by decide), g3 23 0 s (by omega), h23 s (by omega) (by omega)]
                rfl
              · have hF3 : Fr (fC c) ι ι' := ((g3.wide fun t i j q => by omega).trans (hF.wide fun t i j q => by omega)).trans (k2.wide fun t i j q => by omega)
                exact h ι' (((g1.to).fr k2 (fun j => by omega) (k2 0 0 1 (by omega)) (k2 0 0 3 (by omega))).elim (fun a1 a2 => ⟨by rw [a1]; simp (disch := omega) only [up_s, up_k, up_j, up_i], a2.1, by rw [a2.2.1]; simp (disch := omega) only [up_s, up_k, up_j, up_i]; exact g1.2.2.1, a2.2.2⟩)) (fun _ => k1) hF3
            have hf0 : up ι1 0 0 1 (p1 + 1) 0 0 3 = 0 := by simp (disch := omega) only [up_s, up_k, up_j, up_i]; exact g1.2.2.1
            refine bif_i (fun q => s_fine (fun _ => bif_f (by omega) (bif_f (by omega) (fin 1 q.symm))) (fun e => absurd hf0 e)) (fun q => s_fine (fun _ => bif_f (by omega) (bif_f (by omega) (fin 0 (by omega)))) (fun e => absurd hf0 e))
          · intro ι st K H hst hst2 hR h71 h hh
            refine goM ι st K H hR fun ι1 g1 g2 g3 v5 v6 => ?_
            refine e_M_readFew_11 (bif_t (by omega) (bif_t hn4 (m_bit hw (by omega) g1 ?_)))
            refine m_few132 hn ⟨hst, hst2⟩ (by omega) hT n.toNat 0 _ (by omega) (fun j a b => by rw [up_k (by decide)]; exact g2 j a b) (fun s s0 => ?_) fun ι' k1 k2 k3 => ?_
            · rw [up_k (by decide), g3 71 0 _ (by omega), h71 s s0]
              rfl
            · have hF : Fr gF ι1 (up ι1 13 0 16 (p1 + 1)) := (Fr.refl _ _).u (by omega)
              have hF3 : Fr (gC st a) ι ι' := ((g3.wide fun t i j q => by omega).trans (hF.wide fun t i j q => by omega)).trans (k3.wide fun t i j q => by omega)
              exact h rfl ι' ((g1.to).fr k3 (fun j => by omega) (by rw [k3 13 0 16 (by omega)]; simp (disch := omega) only [up_s, up_k, up_j, up_i])) k1 (by rw [k2, if_neg (by omega)]) hF3
        · -- the end
          have e1 : p1 = lim := by omega
          subst e1
          refine ⟨p1, 1, 0, fun _ => 0, by omega, by omega, Or.inr (Or.inr ⟨rfl, rfl⟩), fun e => by omega, ?_, ?_⟩
          · intro ι c K H hcap hR h23 h
            refine goC ι c _ hR fun ι1 g1 g2 g3 => ?_
            refine e_CR_readShort_22 (bif_t (by omega) (bif_t hn4 (s_number_end hw (by omega) g1 ?_)))
            have hF : Fr fF ι1 (up (up ι1 0 0 1 p1) 0 0 3 1) := ((Fr.refl _ _).u (by omega)).u (by omega)
            refine bif_f (by omega) (s_fine (fun e => absurd e (show ¬ _ = (0 : Int) by simp (disch := omega) only [up_s, up_k, up_j, up_i]; omega)) (fun _ => bif_t rfl ?_))
            exact h _ (g1.fr hF (fun j => by omega) (by simp (disch := omega) only [up_s, up_k, up_j, up_i]) (by simp (disch := omega) only [up_s, up_k, up_j, up_i])) (fun e => by omega) ((g3.wide fun t i j q => by omega).trans (hF.wide fun t i j q => by omega))
          · intro ι st K H hst hst2 hR h71 h hh
            refine goM ι st K H hR fun ι1 g1 g2 g3 v5 v6 => ?_
            refine e_M_readFew_11 (bif_t (by omega) (bif_t hn4 (m_bit_end hw g1 ?_)))
            have hF : Fr gF ι1 (up ι1 12 0 6 1) := (Fr.refl _ _).u (by omega)
            exact hh (by omega) _ (g1.fr hF (fun j => by omega) (by simp (disch := omega) only [up_s, up_k, up_j, up_i]; exact g1.1)) (by simp (disch := omega) only [up_s, up_k, up_j, up_i]) ((g3.wide fun t i j q => by omega).trans (hF.wide fun t i j q => by omega))
      · -- no more bits
        have hT0 := hT 0 (by omega) (by omega)
        have hT0a := hT0.1.1
        refine ⟨p1, 0, (if n = 1 then T 0 else -1), lf T n 0 n.toNat, by omega, i2, Or.inl rfl, fun _ => ⟨⟨fun s _ => by have := lf_rg (T := T) (n := n) (t := 0) n.toNat s; omega, ?_⟩, ?_⟩, ?_, ?_⟩
        · by_cases h1 : n = 1
          · rw [if_pos h1]
            exact Or.inl ⟨hT0.2, by omega⟩
          · rw [if_neg h1]
            exact Or.inr ⟨rfl, lf_ok (by omega) (Or.inl rfl) hT⟩
        · intro e s _
          have h1 : n = 1 := by
            by_cases q : n = 1
            · exact q
            · rw [if_neg q] at e; omega
          rw [h1]
          show fs (fun _ => 0) (T ((0 : Nat) : Int)) (sl 1 0 ((0 : Nat) : Int)) s = 0
          unfold fs sl
          rw [if_pos rfl]
          split <;> rfl
        · intro ι c K H hcap hR h23 h
          refine goC ι c _ hR fun ι1 g1 g2 g3 => ?_
          refine e_CR_readShort_22 (bif_t (by omega) (bif_f hn4 (s_fine (fun _ => bif_f (by omega) (bif_i (fun q => ⟨by omega, ?_⟩) (fun q => ?_))) (fun e => absurd g1.2.2.1 e))))
          · rw [g2 0 (by omega) (by omega)]
            refine s_setLone (L := lf T n 0 n.toNat) (a := a) hT0.2 (by omega) fun ι' k1 k2 => ?_
            refine h ι' (g1.fr k2 (fun j => by omega) (by rw [k2 0 0 1 (by omega)]; exact g1.1) (by rw [k2 0 0 3 (by omega)]; exact g1.2.2.1)) (fun _ => by rw [if_pos q]; exact k1) ((g3.wide fun t i j q => by omega).trans (k2.wide fun t i j q => by omega))
          · refine s_few134 (by omega) (Or.inl rfl) (by omega) hcap hT n.toNat 0 _ (by omega) g2 (fun s s0 => ?_) fun ι' k1 k2 => ?_
            · rw [g3 23 0 s (by omega), h23 s (by omega) (by omega)]
              rfl
            · exact h ι' (g1.fr k2 (fun j => by omega) (by rw [k2 0 0 1 (by omega)]; exact g1.1) (by rw [k2 0 0 3 (by omega)]; exact g1.2.2.1)) (fun _ => by rw [if_neg q]; exact k1) ((g3.wide fun t i j q => by omega).trans (k2.wide fun t i j q => by omega))
        · intro ι st K H hst hst2 hR h71 h hh
          refine goM ι st K H hR fun ι1 g1 g2 g3 v5 v6 => ?_
          refine e_M_readFew_11 (bif_t (by omega) (bif_f hn4 ?_))
          refine m_few132 hn ⟨hst, hst2⟩ (by omega) hT n.toNat 0 _ (by omega) g2 (fun s s0 => ?_) fun ι' k1 k2 k3 => ?_
          · rw [g3 71 0 _ (by omega), h71 s s0]
            rfl
          · exact h rfl ι' (g1.fr k3 (fun j => by omega) (by rw [k3 13 0 16 (by omega)]; exact g1.1)) k1 k2 ((g3.wide fun t i j q => by omega).trans (k3.wide fun t i j q => by omega))
    · -- broken among the signs
      refine ⟨p1, r1, 0, fun _ => 0, by omega, i2, i3, fun e => absurd e hr, ?_, ?_⟩
      · intro ι c K H hcap hR h23 h
        refine e_CR_readShort_0 (s_number hw (by omega) (by omega) hR ?_)
        rw [eN]
        refine ⟨by omega, by omega, x_bitsIn (w := w) (by omega) (by omega) hwa hwb ?_⟩
        have hF : Fr fF ι (up ι 0 0 1 (p + 2)) := (Fr.refl _ _).u (by omega)
        exact i5 _ c _ _ hR.to (fun j j0 j1 => by omega) (fun e => absurd e hr) (fun e ι' g1 g2 => h ι' g1 (fun e => absurd e hr) ((hF.trans g2).wide fun t i j q => by omega))
      · intro ι st K H hst hst2 hR h71 h hh
        refine e_M_readFew_0 (m_number hw (by omega) (by omega) hR ?_)
        rw [eN]
        refine ⟨by omega, ?_⟩
        have hF : Fr gF ι (up ι 13 0 16 (p + 2)) := (Fr.refl _ _).u (by omega)
        exact i6 _ st _ _ K H hR.to (fun j j0 j1 => by omega) (fun e => absurd e hr) (fun e ι' g1 g2 g3 => hh hr ι' g1 g2 ((hF.trans g3).wide fun t i j q => by omega))
  · -- the end at once
    refine ⟨lim, 1, 0, fun _ => 0, by omega, by omega, Or.inr (Or.inr ⟨rfl, rfl⟩), fun e => by omega, ?_, ?_⟩
    · intro ι c K H hcap hR h23 h
      refine e_CR_readShort_0 (s_number_end hw (by omega) hR ⟨by omega, by omega, x_bitsIn (w := w) (by omega) (by omega) hwa hwb ?_⟩)
      have hb : up (up ι 0 0 1 lim) 0 0 3 1 0 0 3 ≠ 0 := by simp (disch := omega) only [up_s, up_k, up_j, up_i]; omega
      refine e_CR_readShort_22 (bif_f (by omega) (s_number_bad hb ⟨by omega, ?_⟩))
      have hF : Fr fF ι (up (up (up ι 0 0 1 lim) 0 0 3 1) 25 0 0 0) := (((Fr.refl _ _).u (by omega)).u (by omega)).u (by omega)
      refine s_fine (fun q => absurd q (show ¬ _ = (0 : Int) by simp (disch := omega) only [up_s, up_k, up_j, up_i]; omega)) (fun q => bif_t rfl (s_broken (fun q2 => absurd q2 q) (fun _ => ?_)))
      exact h _ (hR.fr hF (fun j => by omega) (by simp (disch := omega) only [up_s, up_k, up_j, up_i]) (by simp (disch := omega) only [up_s, up_k, up_j, up_i])) (fun e => by omega) (hF.wide fun t i j q => by omega)
    · intro ι st K H hst hst2 hR h71 h hh
      have hF : Fr gF ι (up (up ι 13 0 16 lim) 12 0 6 1) := ((Fr.refl _ _).u (by omega)).u (by omega)
      exact e_M_readFew_0 (m_number_end hw (by omega) (by omega) hR (hh (by omega) _ (hR.fr hF (fun j => by omega) (by simp (disch := omega) only [up_s, up_k, up_j, up_i])) (by simp (disch := omega) only [up_s, up_k, up_j, up_i]) (hF.wide fun t i j q => by omega)))
end Few2
