/-! pack: comp settles a code -/
section Settle
variable {sc : bm_Sc} {n0 a n : Int} {w L : Int → Int}
/-- how many signs are there, and the last of them -/
def cu (w : Int → Int) : Nat → Int
  | 0 => 0
  | s + 1 => cu w s + (if 0 < w s then 1 else 0)
def lastp (w : Int → Int) : Nat → Int
  | 0 => 0
  | s + 1 => if 0 < w s then s else lastp w s
theorem cu_rg (w : Int → Int) : ∀ s : Nat, 0 ≤ cu w s ∧ cu w s ≤ s
  | 0 => ⟨Int.le_refl 0, Int.le_refl 0⟩
  | s + 1 => by have := cu_rg w s; show 0 ≤ cu w s + _ ∧ cu w s + _ ≤ ((s + 1 : Nat) : Int); split <;> omega
theorem lastp_rg (w : Int → Int) : ∀ s : Nat, 0 ≤ lastp w s ∧ (lastp w s < s ∨ lastp w s = 0)
  | 0 => ⟨Int.le_refl 0, Or.inr rfl⟩
  | s + 1 => by have := lastp_rg w s; show 0 ≤ (if 0 < w s then (s : Int) else lastp w s) ∧ ((if 0 < w s then (s : Int) else lastp w s) < ((s + 1 : Nat) : Int) ∨ _ = _); split <;> omega
def half (w : Int → Int) : Int → Int := fun s => if 0 < w s then w s / 2 + 1 else 0
theorem half_pos (s : Int) : 0 < half w s ↔ 0 < w s := by unfold half; split <;> omega
/-- the lengths of a code: t times the weights are halved -/
def HL (a n most : Int) : Nat → (Int → Int) → (Int → Int) → Prop
  | 0, w, L => ∃ o, OR w a n o ∧ (∀ q, 0 ≤ q → q < n → L (o q) = hD (fun k => w (o k)) n q ∧ L (o q) ≤ most) ∧ ∀ s, 0 ≤ s → s < a → w s ≤ 0 → L s = 0
  | t + 1, w, L => ∃ o, OR w a n o ∧ (∃ q, 0 ≤ q ∧ q < n ∧ most < hD (fun k => w (o k)) n q) ∧ HL a n most t (half w) L
/-- m times at most -/
def TE (a n most : Int) : Nat → (Int → Int) → Prop
  | 0, w => ∀ o, OR w a n o → ∀ q, 0 ≤ q → q < n → hD (fun k => w (o k)) n q ≤ most
  | m + 1, w => TE a n most m (half w)
def SB (w : Int → Int) (a n B : Int) : Prop := ∀ r, PM w a n r → sm (fun k => w (r k)) 0 n ≤ B
theorem PM_half {r : Int → Int} : PM (half w) a n r ↔ PM w a n r := by
  unfold PM
  simp only [half_pos]
theorem smN_le {f g : Int → Int} : ∀ (m : Nat) (lo : Int), (∀ k, lo ≤ k → k < lo + m → f k ≤ g k) → smN f m lo ≤ smN g m lo
  | 0, _, _ => Int.le_refl _
  | m + 1, lo, h => by
    have a := h lo (by omega) (by omega)
    have b := smN_le m (lo + 1) (fun k x y => h k (by omega) (by omega))
    show f lo + smN f m (lo + 1) ≤ g lo + smN g m (lo + 1)
    omega
theorem SB_half {B : Int} (h : SB w a n B) : SB (half w) a n B := fun r hr => by
  have hp := PM_half.mp hr
  refine Int.le_trans (smN_le (f := fun k => half w (r k)) (g := fun k => w (r k)) _ _ (fun k x y => ?_)) (h r hp)
  have := hp.1 k x (by omega)
  show half w (r k) ≤ w (r k)
  unfold half
  rw [if_pos this.2.2]; omega
theorem HL_rg {most : Int} (hn : 2 ≤ n) : ∀ (t : Nat) (w : Int → Int), HL a n most t w L → (∀ s, 0 ≤ s → s < a → 0 ≤ L s ∧ (L s ≤ most ∨ L s = 0) ∧ (0 < w s ↔ 1 ≤ L s))
  | 0, w, h => fun s s0 s1 => by
    obtain ⟨o, hO, h1, h2⟩ := h
    by_cases z : 0 < w s
    · obtain ⟨p, p0, p1, p2⟩ := hO.1.2.2 s s0 s1 z
      have q := h1 p p0 p1
      have q1 := hD_1 (hO.VR hn) p0 (show p < 2 * n - 2 by omega)
      rw [p2] at q
      omega
    · have := h2 s s0 s1 (by omega); omega
  | t + 1, w, h => fun s s0 s1 => by
    obtain ⟨o, hO, h1, h2⟩ := h
    have := HL_rg hn t (half w) h2 s s0 s1
    rw [half_pos] at this
    exact this
/-! codes turned -/
def trn (c : Int) : Nat → Int
  | 0 => 0
  | k + 1 => 2 * trn c k + c / bm_p2 k % 2
def hbt (c : Int) : Nat → List Int
  | 0 => []
  | k + 1 => c / bm_p2 k % 2 :: hbt c k
theorem trn_rg (c : Int) : ∀ k : Nat, k ≤ 16 → 0 ≤ trn c k ∧ trn c k < 2 ^ k
  | 0, _ => ⟨Int.le_refl 0, by show (0 : Int) < 2 ^ 0; decide⟩
  | k + 1, h => by
    have := trn_rg c k (by omega)
    show 0 ≤ 2 * trn c k + c / bm_p2 k % 2 ∧ 2 * trn c k + c / bm_p2 k % 2 < 2 ^ (k + 1)
    rw [Int.pow_succ]
    omega
theorem bm_p2s (k : Nat) : bm_p2 ((k : Int) + 1) = 2 * bm_p2 k := by
  unfold bm_p2
  rw [show ((k : Int) + 1).toNat = k + 1 by omega, Int.toNat_natCast, Nat.pow_succ]
  omega
theorem bts_2 {x b : Int} (hb : 0 ≤ b ∧ b < 2) : ∀ (n k : Nat), bts (2 * x + b) n ((k : Int) + 1) = bts x n k
  | 0, _ => rfl
  | n + 1, k => by
    show (2 * x + b) / bm_p2 ((k : Int) + 1) % 2 :: bts (2 * x + b) n ((k : Int) + 1 + 1) = x / bm_p2 k % 2 :: bts x n ((k : Int) + 1)
    rw [bm_p2s, ← Int.ediv_ediv_of_nonneg (by omega), show (2 * x + b) / 2 = x by omega]
    have := bts_2 (x := x) hb n (k + 1)
    rw [show ((k + 1 : Nat) : Int) = (k : Int) + 1 by omega] at this
    rw [this]
theorem bts_trn (c : Int) : ∀ k : Nat, bts (trn c k) k 0 = hbt c k
  | 0 => rfl
  | k + 1 => by
    show (2 * trn c k + c / bm_p2 k % 2) / bm_p2 0 % 2 :: bts (2 * trn c k + c / bm_p2 k % 2) k (0 + 1) = c / bm_p2 k % 2 :: hbt c k
    have := bts_2 (x := trn c k) (b := c / bm_p2 k % 2) (by omega) k 0
    rw [show (((0 : Nat) : Int)) = 0 from rfl] at this
    rw [this, bts_trn c k, show bm_p2 0 = 1 from rfl, Int.ediv_one]
    congr 1
    omega
theorem s_turned4 {ι : bm_S} {K : Int → bm_S → Prop} {H : Nat × Int → bm_S → Prop} {c n : Int} (hn : n ≤ 15) (h : K (trn c n.toNat) ι) : ∀ (m k : Nat), (k : Int) + m = n → bW sc 46 4 [bi c, bi n, bi (trn c k), bi (k : Int)] [] ι (bk1 K H)
  | 0, k, hk => e_CW_turned_4 (bif_t (by omega) (by rw [show n.toNat = k by omega] at h; exact h))
  | m + 1, k, hk => by
    have r := trn_rg c k (by omega)
    have r2 : (2 : Int) ^ k ≤ 65536 := (p16 (by omega)).1
    refine e_CW_turned_4 (bif_f (by omega) ⟨by omega, by omega, by omega, by omega, ?_⟩)
    have := s_turned4 (H := H) hn h m (k + 1) (by omega)
    rw [show ((k + 1 : Nat) : Int) = (k : Int) + 1 by omega] at this
    exact this
theorem s_turned {ι : bm_S} {K : Int → bm_S → Prop} {H : Nat × Int → bm_S → Prop} {c n : Int} (hn : 0 ≤ n ∧ n ≤ 15) (h : K (trn c n.toNat) ι) : bC sc 46 [bi c, bi n] ι (bk1 K H) := e_CW_turned_0 (s_turned4 hn.2 h n.toNat 0 (by omega))
/-- the code of a sign -/
def cd (L : Int → Int) (a : Int) (s : Int) : Int := Fc L a.toNat (L s).toNat + cn L (L s) s.toNat
theorem s_make16 {Q : bm_O → bm_S → Prop} {x : Nat} (hL : CWL n0 a) (ha : 0 ≤ a ∧ a ≤ 704) (hx : 1 ≤ x ∧ x ≤ 15) : ∀ (m s : Nat) (ι : bm_S), (s : Int) + m = a → (∀ s, 0 ≤ s → s < a → ι 27 n0 s = L s) → (∀ q, 0 ≤ q → q < a → 1 ≤ L q → L q < x ∨ (L q = x ∧ q < s) → ι 28 n0 q = trn (cd L a q) (L q).toNat) →
    (∀ (ι' : bm_S) (v3 : bm_V), (∀ q, 0 ≤ q → q < a → 1 ≤ L q → L q ≤ x → ι' 28 n0 q = trn (cd L a q) (L q).toNat) → Fr (fun t i j => t = 28 ∧ i = n0) ι ι' → bW sc 45 4 [br 5 n0, bi (Fc L a.toNat x + mc L a.toNat x), bi ((x : Int) + 1), v3] [] ι' Q) → bW sc 45 16 [br 5 n0, bi (Fc L a.toNat x + cn L x s), bi (x : Int), bi (s : Int)] [] ι Q
  | 0, s, ι, hs, h27, h28, h => by
    refine e_CW_makeCodes_16 (bif_t (by rw [hL.2.1]; omega) ⟨by omega, ?_⟩)
    have e : mc L a.toNat x = cn L x a.toNat := by unfold mc; rw [if_neg (by omega)]
    rw [e] at h
    rw [show s = a.toNat by omega]
    exact h ι _ (fun q q0 q1 q2 q3 => h28 q q0 q1 q2 (by omega)) (Fr.refl _ _)
  | m + 1, s, ι, hs, h27, h28, h => by
    have hb := Fc_b L a.toNat (by omega) x (by omega)
    have hc := cn_nn L x s
    refine e_CW_makeCodes_16 ?_
    rw [hL.2.1, hL.2.2.1, h27 s (by omega) (by omega)]
    have e1 : cn L x (s + 1) = cn L x s + (if L s = x then 1 else 0) := rfl
    refine bif_f (by omega) ⟨by omega, bif_i (fun z => s_turned (by omega) ⟨by omega, by omega, by omega, ?_⟩) (fun z => ⟨by omega, ?_⟩)⟩
    · have F1 : Fr (fun t i j => t = 28 ∧ i = n0) ι (up ι 28 n0 (s : Int) (trn (Fc L a.toNat x + cn L x s) (x : Int).toNat)) := (Fr.refl _ _).u ⟨rfl, rfl⟩
      rw [if_pos z] at e1
      rw [show Fc L a.toNat x + cn L x s + 1 = Fc L a.toNat x + cn L x (s + 1) by omega, show (s : Int) + 1 = ((s + 1 : Nat) : Int) by omega]
      refine s_make16 hL ha hx m (s + 1) _ (by omega) (fun q x y => by rw [F1 27 n0 q (by omega)]; exact h27 q x y) (fun q q0 q1 q2 q3 => ?_) (fun ι' v3 b F2 => h ι' v3 b (F1.trans F2))
      by_cases y : q = (s : Int)
      · rw [y, up_s]
        unfold cd
        rw [z, Int.toNat_natCast, Int.toNat_natCast]
      · rw [up_j y]; exact h28 q q0 q1 q2 (by omega)
    · rw [if_neg z] at e1
      rw [show Fc L a.toNat x + cn L x s = Fc L a.toNat x + cn L x (s + 1) by omega, show (s : Int) + 1 = ((s + 1 : Nat) : Int) by omega]
      refine s_make16 hL ha hx m (s + 1) _ (by omega) h27 (fun q q0 q1 q2 q3 => h28 q q0 q1 q2 ?_) h
      by_cases y : q = (s : Int)
      · rw [y] at q3 ⊢; omega
      · omega
theorem s_make4 {K : bm_S → Prop} {H : Nat × Int → bm_S → Prop} (hL : CWL n0 a) (ha : 0 ≤ a ∧ a ≤ 704) : ∀ (m x : Nat) (ι : bm_S) (v3 : bm_V), x + m = 15 → (∀ s, 0 ≤ s → s < a → ι 27 n0 s = L s) → (∀ q, 0 ≤ q → q < a → 1 ≤ L q → L q ≤ x → ι 28 n0 q = trn (cd L a q) (L q).toNat) →
    (∀ ι' : bm_S, (∀ q, 0 ≤ q → q < a → 1 ≤ L q → L q ≤ 15 → ι' 28 n0 q = trn (cd L a q) (L q).toNat) → Fr (fun t i j => t = 28 ∧ i = n0) ι ι' → K ι') → bW sc 45 4 [br 5 n0, bi (Fc L a.toNat x + mc L a.toNat x), bi ((x : Int) + 1), v3] [] ι (bk0 K H)
  | 0, x, ι, v3, hx, h27, h28, h => e_CW_makeCodes_4 (bif_t (by omega) (h ι (fun q q0 q1 q2 q3 => h28 q q0 q1 q2 (by omega)) (Fr.refl _ _)))
  | m + 1, x, ι, v3, hx, h27, h28, h => by
    have hb := Fc_b L a.toNat (by omega) (x + 1) (by omega)
    have e : Fc L a.toNat (x + 1) = 2 * (Fc L a.toNat x + mc L a.toNat x) := rfl
    refine e_CW_makeCodes_4 (bif_f (by omega) ⟨by omega, ?_⟩)
    rw [← e]
    have e0 : Fc L a.toNat (x + 1) = Fc L a.toNat (x + 1) + cn L ((x + 1 : Nat) : Int) 0 := by show _ = _ + 0; omega
    rw [e0, show (x : Int) + 1 = ((x + 1 : Nat) : Int) by omega]
    refine s_make16 hL ha (x := x + 1) (by omega) a.toNat 0 ι (by omega) h27 (fun q q0 q1 q2 q3 => h28 q q0 q1 q2 (by omega)) (fun ι' v3 b F1 => ?_)
    exact s_make4 hL ha m (x + 1) ι' v3 (by omega) (fun s x y => by rw [F1 27 n0 s (by omega)]; exact h27 s x y) b (fun ι2 b2 F2 => h ι2 b2 (F1.trans F2))
theorem s_make {ι : bm_S} {K : bm_S → Prop} {H : Nat × Int → bm_S → Prop} (hL : CWL n0 a) (ha : 0 ≤ a ∧ a ≤ 704) (h27 : ∀ s, 0 ≤ s → s < a → ι 27 n0 s = L s) (h : ∀ ι' : bm_S, (∀ q, 0 ≤ q → q < a → 1 ≤ L q → L q ≤ 15 → ι' 28 n0 q = trn (cd L a q) (L q).toNat) → Fr (fun t i j => t = 28 ∧ i = n0) ι ι' → K ι') : bC sc 45 [br 5 n0] ι (bk0 K H) :=
  e_CW_makeCodes_0 (s_make4 hL ha 15 0 ι _ (by omega) h27 (fun q q0 q1 q2 q3 => by omega) h)
end Settle
