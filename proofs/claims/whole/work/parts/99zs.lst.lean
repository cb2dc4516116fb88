/-! pack: the list of commands as bits; how long they are -/
section Lst
variable {f wyf T : Int → Int} {N : Int} {A : Int → Int → Int} {L0 L1 L2 : Int → Int}
theorem rch_s (i : Nat) : rch f N (i + 1) = if rch f N i < N then rch f N i + f (rch f N i) else rch f N i := rfl
def flt (f wyf T : Int → Int) (N : Int) (i : Nat) : Int := if rch f N i < N ∧ wyf (rch f N i) = 0 then T (rch f N i) % 256 else -1
theorem flt_rg (i : Nat) : -1 ≤ flt f wyf T N i ∧ flt f wyf T N i < 256 := by unfold flt; split <;> omega
theorem rch_N (hf : ∀ p, 0 ≤ p → p < N → 1 ≤ f p ∧ p + f p ≤ N) {i : Nat} (h : rch f N i = N) : ∀ d : Nat, rch f N (i + d) = N
  | 0 => h
  | d + 1 => by rw [← Nat.add_assoc, rch_s, if_neg (by rw [rch_N hf h d]; omega)]; exact rch_N hf h d
theorem cw_end (hf : ∀ p, 0 ≤ p → p < N → 1 ≤ f p ∧ p + f p ≤ N) {i j : Nat} (hi : rch f N i = N) (hj : rch f N j = N) {s : Int} (hs : 0 ≤ s) : cw (flt f wyf T N) i s = cw (flt f wyf T N) j s := by
  have go : ∀ i j : Nat, i ≤ j → rch f N i = N → cw (flt f wyf T N) i s = cw (flt f wyf T N) j s := fun i j hij hi => by
    have := cw_stop (f := flt f wyf T N) hs (k := i) (j - i) (fun k x y => by
      have := rch_N hf hi (k - i)
      rw [show i + (k - i) = k by omega] at this
      unfold flt; rw [if_neg (by omega)]; omega)
    rw [show i + (j - i) = j by omega] at this
    exact this.symm
  by_cases h : i ≤ j
  · exact go i j h hi
  · exact (go j i (by omega) hj).symm
/-- how many literals there are -/
theorem lit_le (hN : 0 ≤ N) (hf : ∀ p, 0 ≤ p → p < N → 1 ≤ f p ∧ p + f p ≤ N) : ∀ i : Nat, sm (cw (flt f wyf T N) i) 0 256 ≤ rch f N i
  | 0 => by rw [show sm (cw (flt f wyf T N) 0) 0 256 = 0 from sm_0]; exact Int.le_refl 0
  | i + 1 => by
    have ih := lit_le hN hf i
    have r := rch_rg hN hf i
    rw [sm_cw (by omega), rch_s]
    by_cases z : rch f N i < N
    · have := hf (rch f N i) r.1 z
      rw [if_pos z]; split <;> omega
    · have e : flt f wyf T N i = -1 := by unfold flt; rw [if_neg (fun q => z q.1)]
      rw [if_neg z, e, if_neg (by omega)]; omega
theorem cod_le (t : Int → Int) (v : Int) (h0 : t 0 ≤ v) : ∀ n : Nat, t (cod t v (n + 1)) ≤ v
  | 0 => by
    show t (if t ((0 : Nat) : Int) ≤ v then ((0 : Nat) : Int) else 0) ≤ v
    split <;> exact h0
  | n + 1 => by
    have ih := cod_le t v h0 n
    show t (if t ((n + 1 : Nat) : Int) ≤ v then ((n + 1 : Nat) : Int) else cod t v (n + 1)) ≤ v
    split
    · assumption
    · exact ih
theorem ib_w : ((List.range 24).all fun k => decide (4 * ib (k : Int) ≤ ia (k : Int)) && (decide (200 < ya (k : Int)) || decide (yb (k : Int) ≤ 7))) = true := by decide +kernel
theorem ib_4 {k : Int} (hk : 0 ≤ k ∧ k < 24) : 4 * ib k ≤ ia k ∧ (ya k ≤ 200 → yb k ≤ 7) := by
  have h1 := List.all_eq_true.mp ib_w k.toNat (List.mem_range.mpr (by omega))
  rw [show ((k.toNat : Nat) : Int) = k by omega] at h1
  simp only [Bool.and_eq_true, Bool.or_eq_true, decide_eq_true_eq] at h1
  exact ⟨h1.1, fun h => h1.2.resolve_left (by omega)⟩
theorem ci_rg {e : Int} (he : 0 ≤ e) : (0 ≤ cod ia e 24 ∧ cod ia e 24 < 24) ∧ (0 ≤ ib (cod ia e 24) ∧ ib (cod ia e 24) ≤ 24 ∧ 4 * ib (cod ia e 24) ≤ e) ∧ 0 ≤ ia (cod ia e 24) ∧ ia (cod ia e 24) ≤ e := by
  have c := cod24 ia e
  have r := (ib_rg c).1
  have q := ib_4 c
  have l : ia (cod ia e 24) ≤ e := cod_le ia e (show ia 0 ≤ e by have : ia 0 = 0 := by decide
                                                                 omega) 23
  omega
theorem cy_rg {e : Int} (he : 2 ≤ e ∧ e ≤ 200) : (0 ≤ cod ya e 24 ∧ cod ya e 24 < 24) ∧ (0 ≤ yb (cod ya e 24) ∧ yb (cod ya e 24) ≤ 7) ∧ 0 ≤ ya (cod ya e 24) ∧ ya (cod ya e 24) ≤ e := by
  have c := cod24 ya e
  have r := (ib_rg c).1
  have q := (ib_4 c).2
  have l : ya (cod ya e 24) ≤ e := cod_le ya e (show ya 0 ≤ e by have : ya 0 = 2 := by decide
                                                                 omega) 23
  have := q (by omega)
  omega
/-! the bits -/
def ltb (L0 T : Int → Int) : Nat → Int → List Int
  | 0, _ => []
  | m + 1, p => sgb L0 256 (T p % 256) ++ ltb L0 T m (p + 1)
def cpb (A : Int → Int → Int) (k : Int) : List Int := if A 1 k = 0 then [] else bts (A 1 k - ya (cod ya (A 1 k) 24)) (yb (cod ya (A 1 k) 24)).toNat 0
def dsb (A : Int → Int → Int) (L2 : Int → Int) (k : Int) : List Int := if A 4 k < 0 then [] else sgb L2 64 (A 4 k) ++ (if A 4 k < 16 then [] else bts (A 2 k + 3) (1 + (A 4 k - 16) / 2).toNat 0)
def cmdB (A : Int → Int → Int) (T L0 L1 L2 : Int → Int) : Nat → Int → Int → List Int
  | 0, _, _ => []
  | n + 1, k, p => sgb L1 704 (A 3 k) ++ (bts (A 0 k - ia (cod ia (A 0 k) 24)) (ib (cod ia (A 0 k) 24)).toNat 0 ++ (cpb A k ++ (ltb L0 T (A 0 k).toNat p ++ (dsb A L2 k ++ cmdB A T L0 L1 L2 n (k + 1) (p + (A 0 k + A 5 k))))))
theorem cmdB_s (n : Nat) (k p : Int) : cmdB A T L0 L1 L2 (n + 1) k p = sgb L1 704 (A 3 k) ++ (bts (A 0 k - ia (cod ia (A 0 k) 24)) (ib (cod ia (A 0 k) 24)).toNat 0 ++ (cpb A k ++ (ltb L0 T (A 0 k).toNat p ++ (dsb A L2 k ++ cmdB A T L0 L1 L2 n (k + 1) (p + (A 0 k + A 5 k)))))) := rfl
/-- the first command of a list -/
theorem LSt_h (hN : 0 ≤ N ∧ N ≤ 2000) (hf : ∀ p, 0 ≤ p → p < N → 1 ≤ f p ∧ p + f p ≤ N) (hf4 : ∀ p, 0 ≤ p → p < N → wyf p ≠ 0 → 4 ≤ f p) {n ix : Nat} {k : Int} (h : LSt f wyf N A (n + 1) k ix) :
    ∃ e ix' : Nat, A 0 k = e ∧ (∀ j : Nat, j < e → rch f N (ix + j) = rch f N ix + j ∧ rch f N (ix + j) < N ∧ wyf (rch f N (ix + j)) = 0) ∧ rch f N (ix + e) = rch f N ix + e ∧ (0 ≤ A 3 k ∧ A 3 k < 704) ∧ (-1 ≤ A 4 k ∧ A 4 k < 64) ∧ (0 ≤ A 5 k ∧ A 5 k ≤ 2000) ∧ rch f N ix + (A 0 k + A 5 k) = rch f N ix' ∧ LSt f wyf N A n (k + 1) ix' ∧ ix + e ≤ ix' ∧ ix' ≤ ix + e + 1 ∧ (∀ i : Nat, ix + e ≤ i → i < ix' → flt f wyf T N i < 0) ∧
    ((A 1 k = 0 ∧ A 6 k = 2 ∧ A 4 k = -1 ∧ A 5 k = 0 ∧ n = 0 ∧ rch f N (ix + e) = N) ∨ ((2 ≤ A 1 k ∧ A 1 k ≤ 200) ∧ A 6 k = A 1 k ∧ (1 ≤ A 2 k ∧ A 2 k + 3 < 4096) ∧ (16 ≤ A 4 k → 1 ≤ 1 + (A 4 k - 16) / 2 ∧ 1 + (A 4 k - 16) / 2 ≤ 10) ∧ A 5 k = f (rch f N (ix + e)) ∧ 4 ≤ A 5 k ∧ rch f N (ix + e) < N)) := by
  obtain ⟨e, h0, h1, h2, h3⟩ := h
  have rr := rch_rg hN.1 hf (ix + e)
  have r0 := rch_rg hN.1 hf ix
  rcases h3 with ⟨rfl, he, hN1, b1, b2, b3, b4, b5, b6⟩ | ⟨hN1, hw, b5, b6, b1, b2, ⟨s, hs, hs16, b3, b4⟩, hn⟩
  · have c := csg_rg (a := cod ia e 24) (b := 0) (s := -1) (cod24 ia e).1 (by omega)
    refine ⟨e, ix + e, h0, h1, h2, by omega, by omega, by omega, by omega, hN1, by omega, by omega, fun i x y => by omega, Or.inl ⟨b1, b6, b4, b5, rfl, hN1⟩⟩
  · have c := csg_rg (a := cod ia e 24) (b := cod ya (A 1 k) 24) (s := s) (cod24 ia e).1 (cod24 ya (A 1 k))
    have f1 := hf _ rr.1 hN1
    have f4 := hf4 _ rr.1 hN1 hw
    have a4 : -1 ≤ A 4 k ∧ A 4 k < 64 ∧ (16 ≤ A 4 k → A 4 k = s) := by rw [b4]; split <;> omega
    refine ⟨e, ix + e + 1, h0, h1, h2, by omega, by omega, by omega, ?_, hn, by omega, by omega, fun i x y => ?_, Or.inr ⟨b1, b6, b2, fun q => ?_, b5, by omega, hN1⟩⟩
    · rw [rch_s, if_pos hN1]; omega
    · rw [show i = ix + e by omega]; unfold flt; rw [if_neg (fun q => hw q.2)]; omega
    · have := hs16 (by omega)
      have lg := (lgn_rg (d := A 2 k) b2).1
      omega
theorem ltb_len (hL : ∀ s, 0 ≤ s → s < 256 → 0 ≤ L0 s) {ix : Nat} : ∀ (m j : Nat), (∀ i : Nat, j ≤ i → i < j + m → rch f N (ix + i) = rch f N ix + i ∧ rch f N (ix + i) < N ∧ wyf (rch f N (ix + i)) = 0) → ((ltb L0 T m (rch f N ix + j)).length : Int) = sm (fun s => cw (flt f wyf T N) (ix + j + m) s * L0 s) 0 256 - sm (fun s => cw (flt f wyf T N) (ix + j) s * L0 s) 0 256 ∧ sm (cw (flt f wyf T N) (ix + j + m)) 0 256 = sm (cw (flt f wyf T N) (ix + j)) 0 256 + m
  | 0, j, _ => by
    refine ⟨?_, ?_⟩
    · show ((0 : Nat) : Int) = sm (fun s => cw (flt f wyf T N) (ix + j) s * L0 s) 0 256 - sm (fun s => cw (flt f wyf T N) (ix + j) s * L0 s) 0 256; omega
    · show sm (cw (flt f wyf T N) (ix + j)) 0 256 = sm (cw (flt f wyf T N) (ix + j)) 0 256 + ((0 : Nat) : Int); omega
  | m + 1, j, h => by
    have ih := ltb_len hL m (j + 1) (fun i x y => h i (by omega) (by omega))
    have q := h j (by omega) (by omega)
    have e1 : flt f wyf T N (ix + j) = T (rch f N ix + j) % 256 := by unfold flt; rw [if_pos q.2, q.1]
    have e2 : ((ltb L0 T (m + 1) (rch f N ix + j)).length : Int) = L0 (T (rch f N ix + j) % 256) + (ltb L0 T m (rch f N ix + ((j + 1 : Nat) : Int))).length := by
      show ((sgb L0 256 (T (rch f N ix + j) % 256) ++ ltb L0 T m (rch f N ix + j + 1)).length : Int) = _
      rw [app_len, sgb_len (hL _ (by omega) (by omega)), show rch f N ix + (j : Int) + 1 = rch f N ix + ((j + 1 : Nat) : Int) by omega]
    have e3 := sm_cwL (f := flt f wyf T N) (F := L0) (a := 256) (by omega) (ix + j)
    have e4 := sm_cw (f := flt f wyf T N) (a := 256) (by omega) (ix + j)
    rw [e1, if_pos (by omega)] at e3 e4
    rw [show ix + (j + 1) + m = ix + j + (m + 1) by omega, show ix + (j + 1) = ix + j + 1 by omega] at ih
    rw [e2, ih.1, e3]
    refine ⟨by omega, ?_⟩
    rw [ih.2, e4]; omega
theorem cmdB_len (hN : 0 ≤ N ∧ N ≤ 2000) (hf : ∀ p, 0 ≤ p → p < N → 1 ≤ f p ∧ p + f p ≤ N) (hf4 : ∀ p, 0 ≤ p → p < N → wyf p ≠ 0 → 4 ≤ f p) (h0 : ∀ s, 0 ≤ s → s < 256 → 0 ≤ L0 s) (h1 : ∀ s, 0 ≤ s → s < 704 → 0 ≤ L1 s ∧ L1 s ≤ 15) (h2 : ∀ s, 0 ≤ s → s < 64 → 0 ≤ L2 s ∧ L2 s ≤ 15) : ∀ (n : Nat) (k : Int) (ix : Nat), LSt f wyf N A n k ix →
    ∃ iy : Nat, rch f N iy = N ∧ 4 * ((cmdB A T L0 L1 L2 n k (rch f N ix)).length : Int) ≤ 4 * (sm (fun s => cw (flt f wyf T N) iy s * L0 s) 0 256 - sm (fun s => cw (flt f wyf T N) ix s * L0 s) 0 256) + 47 * (N - rch f N ix) - 46 * (sm (cw (flt f wyf T N) iy) 0 256 - sm (cw (flt f wyf T N) ix) 0 256) + (if n = 0 then 0 else 100) := by
  intro n
  induction n with
  | zero =>
    intro k ix h
    have h' : rch f N ix = N := h
    refine ⟨ix, h', ?_⟩
    rw [h']
    show 4 * ((0 : Nat) : Int) ≤ _
    rw [if_pos rfl]; omega
  | succ n ih =>
    intro k ix h
    obtain ⟨e, ix', a0, a1, a2, a3, a4, a5, a6, a7, a8, a9, a10, a11⟩ := LSt_h (T := T) hN hf hf4 h
    obtain ⟨iy, y1, y2⟩ := ih (k + 1) ix' a7
    refine ⟨iy, y1, ?_⟩
    have lt := ltb_len (f := f) (wyf := wyf) (T := T) (N := N) h0 (ix := ix) e 0 (fun i x y => a1 i (by omega))
    rw [show rch f N ix + ((0 : Nat) : Int) = rch f N ix by omega, show ix + 0 + e = ix + e from rfl, show ix + 0 = ix from rfl] at lt
    have es : ∀ s, 0 ≤ s → cw (flt f wyf T N) ix' s = cw (flt f wyf T N) (ix + e) s := fun s hs => by
      have := cw_stop (f := flt f wyf T N) hs (k := ix + e) (ix' - (ix + e)) (fun i x y => a10 i x (by omega))
      rw [show ix + e + (ix' - (ix + e)) = ix' by omega] at this
      exact this
    rw [sm_c (f := fun s => cw (flt f wyf T N) ix' s * L0 s) (g := fun s => cw (flt f wyf T N) (ix + e) s * L0 s) (fun s x y => by show cw (flt f wyf T N) ix' s * L0 s = cw (flt f wyf T N) (ix + e) s * L0 s; rw [es s x]), sm_c (f := cw (flt f wyf T N) ix') (g := cw (flt f wyf T N) (ix + e)) (fun s x y => es s x)] at y2
    have c0 := ci_rg (e := A 0 k) (by omega)
    have l3 := h1 _ a3.1 a3.2
    have ld : 0 ≤ A 4 k → 0 ≤ L2 (A 4 k) ∧ L2 (A 4 k) ≤ 15 := fun q => h2 _ q a4.2
    rw [cmdB_s, app_len, app_len, app_len, app_len, app_len, bts_len, sgb_len l3.1, a6]
    rw [show (A 0 k).toNat = e by omega, lt.1]
    rw [if_neg (by omega)]
    rcases a11 with ⟨b1, b6, b4, b5, b0, bN⟩ | ⟨b1, b6, b2, b3, b5, b54, bN⟩
    · have e1 : ((cpb A k).length : Int) = 0 := by unfold cpb; rw [if_pos b1]; rfl
      have e2 : ((dsb A L2 k).length : Int) = 0 := by unfold dsb; rw [if_pos (by omega)]; rfl
      rw [if_pos b0] at y2
      rw [e1, e2]
      omega
    · have cy := cy_rg b1
      have e1 : ((cpb A k).length : Int) ≤ 7 := by unfold cpb; rw [if_neg (by omega), bts_len]; omega
      have e2 : ((dsb A L2 k).length : Int) ≤ 25 := by
        unfold dsb
        by_cases z : A 4 k < 0
        · rw [if_pos z]; show ((0 : Nat) : Int) ≤ 25; omega
        · have := ld (by omega)
          rw [if_neg z, app_len, sgb_len this.1]
          by_cases z2 : A 4 k < 16
          · rw [if_pos z2]; show _ + ((0 : Nat) : Int) ≤ 25; omega
          · have := b3 (by omega)
            rw [if_neg z2, bts_len]; omega
      have y3 : (if n = 0 then (0 : Int) else 100) ≤ 100 := by split <;> omega
      omega
end Lst
