/-! pack: the head of a part, both -/
section PPart
variable {sc : bm_Sc} {H : Nat × Int → bm_S → Prop} {K : bm_S → Prop} {ι : bm_S} {l : List Int} {f wyf T : Int → Int} {N : Int} {A : Int → Int → Int}
def CmA (ι : bm_S) (nc : Int) (A : Int → Int → Int) : Prop := ι 9 0 4 = nc ∧ ∀ k, 0 ≤ k → k < nc → ι 55 0 k = A 0 k ∧ ι 56 0 k = A 1 k ∧ ι 57 0 k = A 2 k ∧ ι 58 0 k = A 3 k ∧ ι 59 0 k = A 4 k ∧ ι 60 0 k = A 5 k
theorem CmA.fr {ι' : bm_S} {nc : Int} {P : Nat → Int → Int → Prop} (h : CmA ι nc A) (hF : Fr P ι ι') (hP : ¬ P 9 0 4 ∧ ∀ (t : Nat) (j : Int), 55 ≤ t → t ≤ 60 → ¬ P t 0 j) : CmA ι' nc A := ⟨by rw [hF 9 0 4 hP.1]; exact h.1, fun k x y => by
  rw [hF 55 0 k (hP.2 55 k (by omega) (by omega)), hF 56 0 k (hP.2 56 k (by omega) (by omega)), hF 57 0 k (hP.2 57 k (by omega) (by omega)), hF 58 0 k (hP.2 58 k (by omega) (by omega)), hF 59 0 k (hP.2 59 k (by omega) (by omega)), hF 60 0 k (hP.2 60 k (by omega) (by omega))]
  exact h.2 k x y⟩
theorem cwl_le (hN : 0 ≤ N) (hf : ∀ p, 0 ≤ p → p < N → 1 ≤ f p ∧ p + f p ≤ N) {s : Int} (hs : 0 ≤ s) : ∀ i : Nat, cw (flt f wyf T N) i s ≤ rch f N i
  | 0 => Int.le_refl 0
  | i + 1 => by
    have ih := cwl_le hN hf hs i
    have r := rch_rg hN hf i
    rw [cw_s, rch_s]
    by_cases z : rch f N i < N
    · have := hf (rch f N i) r.1 z
      rw [if_pos z]; split <;> omega
    · have e : flt f wyf T N i = -1 := by unfold flt; rw [if_neg (fun q => z q.1)]
      rw [if_neg z, e, if_neg (by omega)]; omega
theorem tb_in {p : Int} (h : 0 ≤ p ∧ p < N) : tb T N p = T p % 256 := by unfold tb; rw [if_neg (by omega)]
theorem s_tp49 {Q : bm_O → bm_S → Prop} {ix e : Nat} {k : Int} (hN : 0 ≤ N ∧ N ≤ 2000) (hf : ∀ p, 0 ≤ p → p < N → 1 ≤ f p ∧ p + f p ≤ N) (hk : 0 ≤ k ∧ k < 501) (hl : ∀ j : Nat, j < e → rch f N (ix + j) = rch f N ix + j ∧ rch f N (ix + j) < N ∧ wyf (rch f N (ix + j)) = 0) : ∀ (m j : Nat) (ι : bm_S), j + m = e → ι 55 0 k = e → TCo ι T N → WgC ι 0 256 (cw (flt f wyf T N) (ix + j)) → (∀ ι' : bm_S, WgC ι' 0 256 (cw (flt f wyf T N) (ix + e)) → Fr (fun t i _ => t = 26 ∧ i = 0) ι ι' → bW sc 106 49 [br 9 0, bi N, bi (rch f N ix), bi k, bi (e : Int)] [] ι' Q) → bW sc 106 49 [br 9 0, bi N, bi (rch f N ix), bi k, bi (j : Int)] [] ι Q := by
  intro m
  induction m with
  | zero => intro j ι hj h5 hT hw h; rw [show j = e by omega] at hw ⊢; exact h ι hw (Fr.refl _ _)
  | succ m ih =>
    intro j ι hj h5 hT hw h
    have q := hl j (by omega)
    have r := rch_rg hN.1 hf ix
    refine e_P_tellPart_49 ⟨by omega, bif_f (by omega) ⟨by omega, s_tb (by omega) hT ?_⟩⟩
    have e1 : tb T N (rch f N ix + j) = flt f wyf T N (ix + j) := by rw [tb_in (by omega)]; unfold flt; rw [if_pos q.2, q.1]
    rw [e1]
    refine s_noteW CWL0 (flt_rg _).2 hw (fun s x y => by have := cw_rg (f := flt f wyf T N) s (ix + j); have := cwl_le (wyf := wyf) (T := T) hN.1 hf x (ix + j); omega) (fun ι1 b F1 => ⟨by omega, ?_⟩)
    rw [show (j : Int) + 1 = ((j + 1 : Nat) : Int) by omega]
    exact ih (j + 1) ι1 (by omega) (by rw [F1 55 0 k (by omega)]; exact h5) (hT.fr F1 (fun j => by omega)) b (fun ι' b' F2 => h ι' b' (F1.trans F2))
abbrev fNt (t : Nat) (i _ : Int) : Prop := t = 26 ∧ (i = 0 ∨ i = 1 ∨ i = 2)
theorem s_tp25 {Q : bm_O → bm_S → Prop} {nc : Nat} (hN : 0 ≤ N ∧ N ≤ 2000) (hf : ∀ p, 0 ≤ p → p < N → 1 ≤ f p ∧ p + f p ≤ N) (hf4 : ∀ p, 0 ≤ p → p < N → wyf p ≠ 0 → 4 ≤ f p) (hnc : nc ≤ 501) : ∀ (n k ix : Nat) (ι : bm_S) (v4 : bm_V), LSt f wyf N A n k ix → k + n = nc → CmA ι nc A → TCo ι T N → WgC ι 0 256 (cw (flt f wyf T N) ix) → WgC ι 1 704 (cw (fun i => A 3 (i : Int)) k) → WgC ι 2 64 (cw (fun i => A 4 (i : Int)) k) → (∀ (ι' : bm_S) (iy : Nat) (v4 : bm_V), rch f N iy = N → WgC ι' 0 256 (cw (flt f wyf T N) iy) → WgC ι' 1 704 (cw (fun i => A 3 (i : Int)) nc) → WgC ι' 2 64 (cw (fun i => A 4 (i : Int)) nc) → Fr fNt ι ι' → bW sc 106 25 [br 9 0, bi N, bi N, bi (nc : Int), v4] [] ι' Q) → bW sc 106 25 [br 9 0, bi N, bi (rch f N ix), bi (k : Int), v4] [] ι Q := by
  intro n
  induction n with
  | zero =>
    intro k ix ι v4 hL hk hA hT h0 h1 h2 h
    have hL' : rch f N ix = N := hL
    rw [show k = nc by omega] at h1 h2 ⊢
    rw [hL']
    exact h ι ix v4 hL' h0 h1 h2 (Fr.refl _ _)
  | succ n ih =>
    intro k ix ι v4 hL hk hA hT h0 h1 h2 h
    obtain ⟨e, ix', a0, a1, a2, a3, a4, a5, a6, a7, a8, a9, a10, -⟩ := LSt_h (T := T) hN hf hf4 hL
    have r := rch_rg hN.1 hf ix
    have r2 := rch_rg hN.1 hf ix'
    have r3 := rch_rg hN.1 hf (ix + e)
    have c := hA.2 k (by omega) (by omega)
    refine e_P_tellPart_25 (bif_f (by rw [hA.1]; omega) ⟨by omega, ?_⟩)
    rw [c.2.2.2.1]
    refine s_noteW CWL1 (by omega) h1 (fun s x y => by have := cw_rg (f := fun i => A 3 (i : Int)) s k; omega) (fun ι1 b1 F1 => ?_)
    refine s_tp49 (e := e) hN hf (by omega) a1 e 0 ι1 (by omega) (by rw [F1 55 0 k (by omega), c.1]; exact a0) (hT.fr F1 (fun j => by omega)) (fun s x y => by rw [F1 26 0 s (by omega)]; exact h0 s x y) (fun ι2 b2 F2 => ?_)
    have A2 : CmA ι2 nc A := (hA.fr F1 ⟨by omega, fun t j _ _ => by omega⟩).fr F2 ⟨by omega, fun t j _ _ => by omega⟩
    have c2 := A2.2 k (by omega) (by omega)
    refine e_P_tellPart_49 ⟨by omega, bif_t (by rw [c2.1]; omega) ⟨by omega, ?_⟩⟩
    rw [c2.2.2.2.2.1]
    refine s_noteW CWL2 (by omega) (W := cw (fun i => A 4 (i : Int)) k) (fun s x y => by rw [F2 26 2 s (by omega), F1 26 2 s (by omega)]; exact h2 s x y) (fun s x y => by have := cw_rg (f := fun i => A 4 (i : Int)) s k; omega) (fun ι3 b3 F3 => ?_)
    have A3 : CmA ι3 nc A := A2.fr F3 ⟨by omega, fun t j _ _ => by omega⟩
    have c3 := A3.2 k (by omega) (by omega)
    rw [c3.1, c3.2.2.2.2.2, a6]
    refine ⟨by omega, by omega, by omega, by omega, by omega, ?_⟩
    rw [show (k : Int) + 1 = ((k + 1 : Nat) : Int) by omega]
    refine ih (k + 1) ix' ι3 _ (by rw [show ((k + 1 : Nat) : Int) = (k : Int) + 1 by omega]; exact a7) (by omega) A3 (((hT.fr F1 (fun j => by omega)).fr F2 (fun j => by omega)).fr F3 (fun j => by omega)) (fun s x y => ?_) (fun s x y => ?_) b3 (fun ι' iy v4 y1 y2 y3 y4 F4 => h ι' iy v4 y1 y2 y3 y4 (((F1.wide fun t i j q => by omega).trans (F2.wide fun t i j q => by omega)).trans ((F3.wide fun t i j q => by omega).trans F4)))
    · rw [F3 26 0 s (by omega), b2 s x y]
      have := cw_stop (f := flt f wyf T N) x (k := ix + e) (ix' - (ix + e)) (fun i x y => a10 i x (by omega))
      rw [show ix + e + (ix' - (ix + e)) = ix' by omega] at this
      exact this.symm
    · rw [F3 26 1 s (by omega), F2 26 1 s (by omega)]; exact b1 s x y
abbrev fTP (t : Nat) (i j : Int) : Prop := (t = 2 ∨ t = 20) ∧ i = 1 ∨ 26 ≤ t ∧ t ≤ 34 ∨ t = 5 ∧ (j = 9 ∨ j = 10)
def hdB (N : Int) (B0 B1 B2 : List Int) : List Int := bts 1 4 0 ++ (bts (N - 1) 16 0 ++ (bts 0 13 0 ++ (B0 ++ (B1 ++ B2))))
theorem s_tellPart {nc : Nat} (hN : 1 ≤ N ∧ N ≤ 2000) (hf : ∀ p, 0 ≤ p → p < N → 1 ≤ f p ∧ p + f p ≤ N) (hf4 : ∀ p, 0 ≤ p → p < N → wyf p ≠ 0 → 4 ≤ f p) (hnc : nc ≤ 501) (hL : LSt f wyf N A nc 0 0) (hA : CmA ι nc A) (hT : TCo ι T N) (hC : CB ι l) (hr : (l.length : Int) ≤ 1000) (h : ∀ (ι' : bm_S) (ix : Nat) (B0 B1 B2 : List Int) (L0 L1 L2 : Int → Int), rch f N ix = N → Tld 8 256 (cw (flt f wyf T N) ix) L0 B0 → Tld 10 704 (cw (fun i => A 3 (i : Int)) nc) L1 B1 → Tld 6 64 (cw (fun i => A 4 (i : Int)) nc) L2 B2 → CB ι' (l ++ hdB N B0 B1 B2) → CS ι' 0 256 L0 → CS ι' 1 704 L1 → CS ι' 2 64 L2 → Fr fTP ι ι' → K ι') : bC sc 106 [br 9 0, bi N] ι (bk0 K H) := by
  refine e_P_tellPart_0 (e_CW_start_0 (s_fill_26 (by rw [CWL0.1]; omega) (fun ι1 b1 F1 => e_CW_start_0 (s_fill_26 (by rw [CWL1.1]; omega) (fun ι2 b2 F2 => e_CW_start_0 (s_fill_26 (by rw [CWL2.1]; omega) (fun ι3 b3 F3 => ?_)))))))
  rw [CWL0.1] at b1
  rw [CWL1.1] at b2
  rw [CWL2.1] at b3
  have A3 := ((hA.fr F1 ⟨by omega, fun t j _ _ => by omega⟩).fr F2 ⟨by omega, fun t j _ _ => by omega⟩).fr F3 ⟨by omega, fun t j _ _ => by omega⟩
  have T3 := ((hT.fr F1 (fun j => by omega)).fr F2 (fun j => by omega)).fr F3 (fun j => by omega)
  have C3 := ((hC.fr F1 (fun j => by omega)).fr F2 (fun j => by omega)).fr F3 (fun j => by omega)
  refine s_tp25 (T := T) ⟨by omega, hN.2⟩ hf hf4 hnc nc 0 0 ι3 _ hL (by omega) A3 T3 (fun s x y => by rw [F3 26 0 s (by omega), F2 26 0 s (by omega)]; exact b1 s x y) (fun s x y => by rw [F3 26 1 s (by omega)]; exact b2 s x y) (fun s x y => b3 s x y) (fun ι4 ix v4 hx w0 w1 w2 F4 => ?_)
  have A4 := A3.fr F4 ⟨by omega, fun t j _ _ => by omega⟩
  have C4 := C3.fr F4 (fun j => by omega)
  have F04 : Fr fTP ι ι4 := ((F1.wide fun t i j q => by omega).trans (F2.wide fun t i j q => by omega)).trans ((F3.wide fun t i j q => by omega).trans (F4.wide fun t i j q => by omega))
  have s0 := lit_le (wyf := wyf) (T := T) (show 0 ≤ N by omega) hf ix
  have s1 := sm_cw_le (f := fun i => A 3 (i : Int)) (a := 704) (by omega) nc
  have s2 := sm_cw_le (f := fun i => A 4 (i : Int)) (a := 64) (by omega) nc
  rw [hx] at s0
  refine e_P_tellPart_25 (bif_t (by rw [A4.1]; omega) (s_pu (by omega) (by omega) (by omega) C4 (fun ι5 C5 F5 => ⟨by omega, s_pu (by omega) (by omega) (by rw [app_len, bts_len]; omega) C5 (fun ι6 C6 F6 => s_pu (by omega) (by omega) (by rw [app_len, app_len, bts_len, bts_len]; omega) C6 (fun ι7 C7 F7 => ?_))⟩)))
  have F57 : Fr fW ι4 ι7 := (F5.trans F6).trans F7
  have l7 : (((((l ++ bts 1 (Int.toNat 4) 0) ++ bts (N - 1) (Int.toNat 16) 0) ++ bts 0 (Int.toNat 13) 0).length : Nat) : Int) ≤ 1033 := by rw [app_len, app_len, app_len, bts_len, bts_len, bts_len]; omega
  have wr0 : ∀ s, 0 ≤ s → s < 256 → 0 ≤ cw (flt f wyf T N) ix s ∧ cw (flt f wyf T N) ix s ≤ 2000 := fun s x y => by have := cw_rg (f := flt f wyf T N) s ix; have := cwl_le (wyf := wyf) (T := T) (show 0 ≤ N by omega) hf x ix; omega
  refine s_tell (Wd := 8) (by omega) CWL0 (by omega) (by omega) (by decide) (by decide) (by omega) wr0 (fun s x y => by rw [F57 26 0 s (by omega)]; exact w0 s x y) C7 (by omega) (fun ι8 B0 L0 t0 C8 S8 F8 => ?_)
  have bl0 := Tld_len (by omega) (by omega) t0
  refine s_tell (Wd := 10) (w := cw (fun i => A 3 (i : Int)) nc) (by omega) CWL1 (by omega) (by omega) (by decide) (by decide) (by omega) (fun s x y => by have := cw_rg (f := fun i => A 3 (i : Int)) s nc; omega) (fun s x y => by rw [F8 26 1 s (by omega), F57 26 1 s (by omega)]; exact w1 s x y) C8 (by rw [app_len]; omega) (fun ι9 B1 L1 t1 C9 S9 F9 => ?_)
  have bl1 := Tld_len (by omega) (by omega) t1
  refine s_tell (Wd := 6) (w := cw (fun i => A 4 (i : Int)) nc) (by omega) CWL2 (by omega) (by omega) (by decide) (by decide) (by omega) (fun s x y => by have := cw_rg (f := fun i => A 4 (i : Int)) s nc; omega) (fun s x y => by rw [F9 26 2 s (by omega), F8 26 2 s (by omega), F57 26 2 s (by omega)]; exact w2 s x y) C9 (by rw [app_len, app_len]; omega) (fun ι10 B2 L2 t2 C10 S10 F10 => ?_)
  refine h ι10 ix B0 B1 B2 L0 L1 L2 hx t0 t1 t2 ?_ ((S8.fr F9 (fun j => by omega)).fr F10 (fun j => by omega)) (S9.fr F10 (fun j => by omega)) S10 (F04.trans ((F57.wide fun t i j q => by omega).trans ((F8.wide fun t i j q => by omega).trans ((F9.wide fun t i j q => by omega).trans (F10.wide fun t i j q => by omega)))))
  rw [List.append_assoc, List.append_assoc, List.append_assoc, List.append_assoc, List.append_assoc] at C10
  exact C10
end PPart
