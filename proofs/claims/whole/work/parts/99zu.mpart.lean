/-! pack: the codes of a part, the other -/
section MPart
variable {sc : bm_Sc} {H : Nat × Int → bm_S → Prop} {K : bm_S → Prop} {ι : bm_S} {l : List Int} {f wyf T : Int → Int} {N : Int} {A : Int → Int → Int} {g c : Int → Int} {lv : Int}
theorem TMo_fr {ι' : bm_S} {P : Nat → Int → Int → Prop} (h : TMo ι T N) (hF : Fr P ι ι') (hP : ¬ P 13 0 59 ∧ ∀ j, ¬ P 74 0 j) : TMo ι' T N := ⟨by rw [hF 13 0 59 hP.1]; exact h.1, fun k x y => by rw [hF 74 0 k (hP.2 k)]; exact h.2 k x y⟩
def CmB (ι : bm_S) (nc : Int) (A : Int → Int → Int) : Prop := ι 13 0 63 = nc ∧ ∀ k, 0 ≤ k → k < nc → ι 104 0 (4 * k) = A 0 k ∧ ι 104 0 (4 * k + 1) = A 1 k ∧ ι 104 0 (4 * k + 2) = A 2 k ∧ ι 104 0 (4 * k + 3) = A 3 k ∧ ι 105 0 k = A 4 k ∧ ι 106 0 k = A 6 k
theorem CmB.fr {ι' : bm_S} {nc : Int} {P : Nat → Int → Int → Prop} (h : CmB ι nc A) (hF : Fr P ι ι') (hP : ¬ P 13 0 63 ∧ ∀ (t : Nat) (j : Int), 104 ≤ t → t ≤ 106 → ¬ P t 0 j) : CmB ι' nc A := ⟨by rw [hF 13 0 63 hP.1]; exact h.1, fun k x y => by
  rw [hF 104 0 _ (hP.2 104 _ (by omega) (by omega)), hF 104 0 _ (hP.2 104 _ (by omega) (by omega)), hF 104 0 _ (hP.2 104 _ (by omega) (by omega)), hF 104 0 _ (hP.2 104 _ (by omega) (by omega)), hF 105 0 k (hP.2 105 k (by omega) (by omega)), hF 106 0 k (hP.2 106 k (by omega) (by omega))]
  exact h.2 k x y⟩
theorem m_count (h : ∀ ι' : bm_S, (∀ s, 0 ≤ s → s < 1024 → ι' 93 0 s = 0) → Fr (fun t _ _ => t = 93) ι ι' → K ι') : bC sc 254 [br 13 0] ι (bk0 K H) := by
  have go : ∀ (m k : Nat) (ι : bm_S), k + m = 1024 → (∀ s, 0 ≤ s → s < (k : Int) → ι 93 0 s = 0) → (∀ ι' : bm_S, (∀ s, 0 ≤ s → s < 1024 → ι' 93 0 s = 0) → Fr (fun t _ _ => t = 93) ι ι' → K ι') → bW sc 254 2 [br 13 0, bi (k : Int)] [] ι (bk0 K H) := by
    intro m
    induction m with
    | zero => intro k ι hk hz h; exact e_M_countSigns_2 (bif_t (by omega) (h ι (fun s x y => hz s x (by omega)) (Fr.refl _ _)))
    | succ m ih =>
      intro k ι hk hz h
      refine e_M_countSigns_2 (bif_f (by omega) ⟨by omega, by omega, ?_⟩)
      rw [show (k : Int) + 1 = ((k + 1 : Nat) : Int) by omega]
      have F1 : Fr (fun t _ _ => t = 93) ι (up ι 93 0 (k : Int) 0) := (Fr.refl _ _).u rfl
      refine ih (k + 1) _ (by omega) (fun s x y => ?_) (fun ι' b F2 => h ι' b (F1.trans F2))
      rw [up_at]
      by_cases z : s = (k : Int)
      · rw [if_pos z]
      · rw [if_neg z]; exact hz s x (by omega)
  exact e_M_countSigns_0 (go 1024 0 ι (by omega) (fun s x y => by omega) h)
theorem m_wc6 {Q : bm_O → bm_S → Prop} (hN : 0 ≤ N ∧ N ≤ 2000) (hf : f = mk lv (cf T N) (wdM T N g c) N) (hw : wyf = wy lv (cf T N) (wdM T N g c) N) : ∀ (M i : Nat) (ι : bm_S), N - rch f N i < M → TMo ι T N → (∀ q, 0 ≤ q → q < N → WQ ι T N g c lv q) → (∀ s, 0 ≤ s → s < 256 → ι 93 0 s = cw (flt f wyf T N) i s) → (∀ (ι' : bm_S) (iy : Nat), rch f N iy = N → (∀ s, 0 ≤ s → s < 256 → ι' 93 0 s = cw (flt f wyf T N) iy s) → Fr (fun t _ _ => t = 93) ι ι' → bW sc 255 6 [br 13 0, bi N] [] ι' Q) → bW sc 255 6 [br 13 0, bi (rch f N i)] [] ι Q := by
  have hmk : ∀ p, 0 ≤ p → p < N → 1 ≤ f p ∧ p + f p ≤ N := by rw [hf]; exact mk_ab hN.2
  intro M
  induction M with
  | zero => intro i ι hM; have := rch_rg hN.1 hmk i; omega
  | succ M ih =>
    intro i ι hM hT hQ h93 h
    have r := rch_rg hN.1 hmk i
    by_cases z : rch f N i = N
    · rw [z]; exact h ι i z h93 (Fr.refl _ _)
    · have hp : 0 ≤ rch f N i ∧ rch f N i < N := by omega
      have f1 := hmk _ hp.1 hp.2
      have rs : rch f N (i + 1) = rch f N i + f (rch f N i) := by rw [rch_s, if_pos hp.2]
      have q := hQ _ hp.1 hp.2
      have q5 : ι 102 0 (rch f N i) = wyf (rch f N i) := by rw [hw]; exact q.2.2.2.2
      refine e_M_writeCodes_6 (bif_f (by rw [hT.1]; omega) ⟨by omega, ?_⟩)
      rw [q5, hT.2 _ hp.1 hp.2]
      refine bif_i (fun y => ?_) (fun y => ?_)
      · have e1 : flt f wyf T N i = T (rch f N i) % 256 := by unfold flt; rw [if_pos ⟨hp.2, y⟩]
        have c1 := cw_rg (f := flt f wyf T N) (T (rch f N i) % 256) i
        have c2 := cwl_le (f := f) (wyf := wyf) (T := T) (s := T (rch f N i) % 256) hN.1 hmk (by omega) i
        rw [h93 _ (by omega) (by omega)]
        refine ⟨by omega, by omega, by omega, by omega, ?_⟩
        have F1 : Fr (fun t _ _ => t = 93) ι (up ι 93 0 (T (rch f N i) % 256) (cw (flt f wyf T N) i (T (rch f N i) % 256) + 1)) := (Fr.refl _ _).u rfl
        refine m_madeBy (lv := lv) (by omega) hN.2 hp.2 (q.fr F1 (fun t _ _ => by omega)) ?_
        rw [← hf, ← rs]
        refine ⟨by have := rch_rg hN.1 hmk (i + 1); omega, ih (i + 1) _ (by omega) (TMo_fr hT F1 ⟨by omega, fun j => by omega⟩) (fun p x y => (hQ p x y).fr F1 (fun t _ _ => by omega)) (fun s x y => ?_) (fun ι' iy a b F2 => h ι' iy a b (F1.trans F2))⟩
        rw [up_at, cw_s, e1]
        by_cases w : s = T (rch f N i) % 256
        · rw [if_pos w, if_pos w.symm, w]
        · rw [if_neg w, if_neg (fun q => w q.symm), h93 s x y]; omega
      · have e1 : flt f wyf T N i = -1 := by unfold flt; rw [if_neg (fun q => y q.2)]
        refine m_madeBy (lv := lv) (by omega) hN.2 hp.2 q ?_
        rw [← hf, ← rs]
        refine ⟨by have := rch_rg hN.1 hmk (i + 1); omega, ih (i + 1) ι (by omega) hT hQ (fun s x y => ?_) h⟩
        rw [cw_s, e1, if_neg (by omega), h93 s x y]; omega
theorem m_wc68 {Q : bm_O → bm_S → Prop} {nc : Nat} (hnc : nc ≤ 501) (h3 : ∀ k : Nat, k < nc → 0 ≤ A 3 k ∧ A 3 k < 704) : ∀ (m k : Nat) (ι : bm_S), k + m = nc → CmB ι nc A → (∀ s, 0 ≤ s → s < 704 → ι 93 0 s = cw (fun i => A 3 (i : Int)) k s) → (∀ ι' : bm_S, (∀ s, 0 ≤ s → s < 704 → ι' 93 0 s = cw (fun i => A 3 (i : Int)) nc s) → Fr (fun t _ _ => t = 93) ι ι' → bW sc 255 68 [br 13 0, bi (nc : Int)] [] ι' Q) → bW sc 255 68 [br 13 0, bi (k : Int)] [] ι Q := by
  intro m
  induction m with
  | zero => intro k ι hk hA h93 h; rw [show k = nc by omega] at h93 ⊢; exact h ι h93 (Fr.refl _ _)
  | succ m ih =>
    intro k ι hk hA h93 h
    have q := h3 k (by omega)
    have cc := (hA.2 k (by omega) (by omega)).2.2.2.1
    have c1 := cw_rg (f := fun i => A 3 (i : Int)) (A 3 k) k
    refine e_M_writeCodes_68 (bif_f (by rw [hA.1]; omega) ⟨by omega, by omega, by omega, ?_⟩)
    rw [cc, h93 _ q.1 q.2]
    refine ⟨by omega, by omega, by omega, by omega, ?_⟩
    rw [show (k : Int) + 1 = ((k + 1 : Nat) : Int) by omega]
    have F1 : Fr (fun t _ _ => t = 93) ι (up ι 93 0 (A 3 k) (cw (fun i => A 3 (i : Int)) k (A 3 k) + 1)) := (Fr.refl _ _).u rfl
    refine ih (k + 1) _ (by omega) (hA.fr F1 ⟨by omega, fun t j _ _ => by omega⟩) (fun s x y => ?_) (fun ι' b F2 => h ι' b (F1.trans F2))
    rw [up_at, cw_s]
    by_cases w : s = A 3 k
    · rw [if_pos w, if_pos w.symm, w]
    · rw [if_neg w, if_neg (fun q => w q.symm), h93 s x y]; omega
theorem m_wc117 {Q : bm_O → bm_S → Prop} {nc : Nat} (hnc : nc ≤ 501) (h4 : ∀ k : Nat, k < nc → -1 ≤ A 4 k ∧ A 4 k < 64) : ∀ (m k : Nat) (ι : bm_S), k + m = nc → CmB ι nc A → (∀ s, 0 ≤ s → s < 64 → ι 93 0 s = cw (fun i => A 4 (i : Int)) k s) → (∀ ι' : bm_S, (∀ s, 0 ≤ s → s < 64 → ι' 93 0 s = cw (fun i => A 4 (i : Int)) nc s) → Fr (fun t _ _ => t = 93) ι ι' → bW sc 255 117 [br 13 0, bi (nc : Int)] [] ι' Q) → bW sc 255 117 [br 13 0, bi (k : Int)] [] ι Q := by
  intro m
  induction m with
  | zero => intro k ι hk hA h93 h; rw [show k = nc by omega] at h93 ⊢; exact h ι h93 (Fr.refl _ _)
  | succ m ih =>
    intro k ι hk hA h93 h
    have q := h4 k (by omega)
    have cc := (hA.2 k (by omega) (by omega)).2.2.2.2.1
    have c1 := cw_rg (f := fun i => A 4 (i : Int)) (A 4 k) k
    refine e_M_writeCodes_117 (bif_f (by rw [hA.1]; omega) ⟨by omega, ?_⟩)
    rw [cc]
    refine bif_i (fun z => ⟨by omega, ?_⟩) (fun z => ?_)
    · rw [show (k : Int) + 1 = ((k + 1 : Nat) : Int) by omega]
      refine ih (k + 1) ι (by omega) hA (fun s x y => ?_) h
      rw [cw_s, if_neg (by omega), h93 s x y]; omega
    · rw [h93 _ (by omega) q.2]
      refine ⟨by omega, by omega, by omega, by omega, by omega, ?_⟩
      rw [show (k : Int) + 1 = ((k + 1 : Nat) : Int) by omega]
      have F1 : Fr (fun t _ _ => t = 93) ι (up ι 93 0 (A 4 k) (cw (fun i => A 4 (i : Int)) k (A 4 k) + 1)) := (Fr.refl _ _).u rfl
      refine ih (k + 1) _ (by omega) (hA.fr F1 ⟨by omega, fun t j _ _ => by omega⟩) (fun s x y => ?_) (fun ι' b F2 => h ι' b (F1.trans F2))
      rw [up_at, cw_s]
      by_cases w : s = A 4 k
      · rw [if_pos w, if_pos w.symm, w]
      · rw [if_neg w, if_neg (fun q => w q.symm), h93 s x y]; omega
/-- every command of a list -/
theorem LSt_all (hN : 0 ≤ N ∧ N ≤ 2000) (hf : ∀ p, 0 ≤ p → p < N → 1 ≤ f p ∧ p + f p ≤ N) (hf4 : ∀ p, 0 ≤ p → p < N → wyf p ≠ 0 → 4 ≤ f p) : ∀ (n k ix : Nat), LSt f wyf N A n k ix → ∀ i : Nat, k ≤ i → i < k + n → (0 ≤ A 3 i ∧ A 3 i < 704) ∧ (-1 ≤ A 4 i ∧ A 4 i < 64) := by
  intro n
  induction n with
  | zero => intro k ix h i x y; omega
  | succ n ih =>
    intro k ix h i x y
    obtain ⟨e, ix', a0, a1, a2, a3, a4, a5, a6, a7, -⟩ := LSt_h (T := fun _ => 0) hN hf hf4 h
    by_cases z : i = k
    · rw [z]; exact ⟨a3, a4⟩
    · exact ih (k + 1) ix' (by rw [show ((k + 1 : Nat) : Int) = (k : Int) + 1 by omega]; exact a7) i (by omega) (by omega)
abbrev gMC (t : Nat) (_ j : Int) : Prop := t = 67 ∨ t = 13 ∧ (j = 6 ∨ j = 43 ∨ j = 50) ∨ 90 ≤ t ∧ t ≤ 95 ∨ 71 ≤ t ∧ t ≤ 73
theorem m_codes {nc ix : Nat} {B0 B1 B2 : List Int} {L0 L1 L2 : Int → Int} (hN : 1 ≤ N ∧ N ≤ 2000) (hf : f = mk lv (cf T N) (wdM T N g c) N) (hw : wyf = wy lv (cf T N) (wdM T N g c) N) (hf4 : ∀ p, 0 ≤ p → p < N → wyf p ≠ 0 → 4 ≤ f p) (hnc : nc ≤ 501) (hL : LSt f wyf N A nc 0 0) (hA : CmB ι nc A) (hT : TMo ι T N) (hQ : ∀ q, 0 ≤ q → q < N → WQ ι T N g c lv q) (hx : rch f N ix = N) (t0 : Tld 8 256 (cw (flt f wyf T N) ix) L0 B0) (t1 : Tld 10 704 (cw (fun i => A 3 (i : Int)) nc) L1 B1) (t2 : Tld 6 64 (cw (fun i => A 4 (i : Int)) nc) L2 B2) (hC : MB ι l) (hr : (l.length : Int) ≤ 1033) (h : ∀ ι' : bm_S, MB ι' (l ++ (B0 ++ (B1 ++ B2))) → MS ι' 120 256 L0 → MS ι' 3192 704 L1 → MS ι' 11640 64 L2 → Fr gMC ι ι' → K ι') : bC sc 255 [br 13 0] ι (bk0 K H) := by
  have hmk : ∀ p, 0 ≤ p → p < N → 1 ≤ f p ∧ p + f p ≤ N := by rw [hf]; exact mk_ab hN.2
  have hall := LSt_all (A := A) (show 0 ≤ N ∧ N ≤ 2000 by omega) hmk hf4 nc 0 0 hL
  have bl0 := Tld_len (by omega) (by omega) t0
  have bl1 := Tld_len (by omega) (by omega) t1
  have s0 := lit_le (wyf := wyf) (T := T) (show 0 ≤ N by omega) hmk ix
  have s1 := sm_cw_le (f := fun i => A 3 (i : Int)) (a := 704) (by omega) nc
  have s2 := sm_cw_le (f := fun i => A 4 (i : Int)) (a := 64) (by omega) nc
  rw [hx] at s0
  refine e_M_writeCodes_0 (m_count (fun ι1 z1 F1 => ?_))
  refine m_wc6 ⟨by omega, hN.2⟩ hf hw (N.toNat + 1) 0 ι1 (by have e : rch f N 0 = 0 := rfl; omega) (TMo_fr hT F1 ⟨by omega, fun j => by omega⟩) (fun q x y => (hQ q x y).fr F1 (fun t _ _ => by omega)) (fun s x y => z1 s x (by omega)) (fun ι2 iy y1 y2 F2 => ?_)
  have T2 := TMo_fr (TMo_fr hT F1 ⟨by omega, fun j => by omega⟩) F2 ⟨by omega, fun j => by omega⟩
  have C2 := (hC.fr F1 (fun j => by omega)).fr F2 (fun j => by omega)
  have F12 : Fr gMC ι ι2 := (F1.wide fun t i j q => by omega).trans (F2.wide fun t i j q => by omega)
  have A2 := (hA.fr F1 ⟨by omega, fun t j _ _ => by omega⟩).fr F2 ⟨by omega, fun t j _ _ => by omega⟩
  refine e_M_writeCodes_6 (bif_t (by rw [T2.1]; omega) (m_tellW (Wd := 8) (by omega) (by omega) (by omega) (by decide) (by decide) t0 (by omega) (fun s x y => by have := cw_rg (f := flt f wyf T N) s ix; have := cwl_le (wyf := wyf) (T := T) (show 0 ≤ N by omega) hmk x ix; omega) (fun s x y => by rw [y2 s x y]; exact cw_end hmk y1 hx x) C2 (by omega) (fun ι3 C3 S3 F3 => m_count (fun ι4 z4 F4 => ?_))))
  have A4 := (A2.fr F3 ⟨by omega, fun t j _ _ => by omega⟩).fr F4 ⟨by omega, fun t j _ _ => by omega⟩
  refine m_wc68 hnc (fun k hk => (hall k (by omega) (by omega)).1) nc 0 ι4 (by omega) A4 (fun s x y => z4 s x (by omega)) (fun ι5 z5 F5 => ?_)
  have A5 := A4.fr F5 ⟨by omega, fun t j _ _ => by omega⟩
  have C5 := (C3.fr F4 (fun j => by omega)).fr F5 (fun j => by omega)
  have S5 := (S3.fr F4 ⟨by omega, fun j _ _ => by omega⟩).fr F5 ⟨by omega, fun j _ _ => by omega⟩
  refine e_M_writeCodes_68 (bif_t (by rw [A5.1]; omega) (m_tellW (Wd := 10) (by omega) (by omega) (by omega) (by decide) (by decide) t1 (by omega) (fun s x y => by have := cw_rg (f := fun i => A 3 (i : Int)) s nc; omega) z5 C5 (by rw [app_len]; omega) (fun ι6 C6 S6 F6 => m_count (fun ι7 z7 F7 => ?_))))
  have A7 := (A5.fr F6 ⟨by omega, fun t j _ _ => by omega⟩).fr F7 ⟨by omega, fun t j _ _ => by omega⟩
  refine m_wc117 hnc (fun k hk => (hall k (by omega) (by omega)).2) nc 0 ι7 (by omega) A7 (fun s x y => z7 s x (by omega)) (fun ι8 z8 F8 => ?_)
  have A8 := A7.fr F8 ⟨by omega, fun t j _ _ => by omega⟩
  have C8 := (C6.fr F7 (fun j => by omega)).fr F8 (fun j => by omega)
  have S58 := ((S5.fr F6 ⟨by omega, fun j _ _ => by omega⟩).fr F7 ⟨by omega, fun j _ _ => by omega⟩).fr F8 ⟨by omega, fun j _ _ => by omega⟩
  have S68 := (S6.fr F7 ⟨by omega, fun j _ _ => by omega⟩).fr F8 ⟨by omega, fun j _ _ => by omega⟩
  refine e_M_writeCodes_117 (bif_t (by rw [A8.1]; omega) (m_tellW (Wd := 6) (by omega) (by omega) (by omega) (by decide) (by decide) t2 (by omega) (fun s x y => by have := cw_rg (f := fun i => A 4 (i : Int)) s nc; omega) z8 C8 (by rw [app_len, app_len]; omega) (fun ι9 C9 S9 F9 => ?_)))
  refine h ι9 ?_ (S58.fr F9 ⟨by omega, fun j _ _ => by omega⟩) (S68.fr F9 ⟨by omega, fun j _ _ => by omega⟩) S9 (F12.trans ((F3.wide fun t i j q => by omega).trans ((F4.wide fun t i j q => by omega).trans ((F5.wide fun t i j q => by omega).trans ((F6.wide fun t i j q => by omega).trans ((F7.wide fun t i j q => by omega).trans ((F8.wide fun t i j q => by omega).trans (F9.wide fun t i j q => by omega))))))))
  rw [List.append_assoc, List.append_assoc] at C9
  exact C9
end MPart
