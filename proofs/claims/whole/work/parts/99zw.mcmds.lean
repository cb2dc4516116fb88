/-! pack: the commands written, the other -/
section MCmds
variable {sc : bm_Sc} {H : Nat × Int → bm_S → Prop} {K : bm_S → Prop} {f wyf T : Int → Int} {N : Int} {A : Int → Int → Int} {L0 L1 L2 : Int → Int} {g c : Int → Int} {lv : Int}
theorem and_127 : ((List.range 4096).all fun k => decide (bm_and (k : Int) 127 = (k : Int) % 128) && decide (bm_and (k : Int) 511 = (k : Int) % 512)) = true := by decide +kernel
theorem band_10 {x v : Int} (hx : 0 ≤ x ∧ x < 4096) (h : 1 ≤ v ∧ v ≤ 10) : bm_band x (1 * bm_p2 v - 1) = x % bm_p2 v := by
  have h1 := List.all_eq_true.mp and_127 x.toNat (List.mem_range.mpr (by omega))
  rw [show ((x.toNat : Nat) : Int) = x by omega] at h1
  simp only [Bool.and_eq_true, decide_eq_true_eq] at h1
  have : v = 1 ∨ v = 2 ∨ v = 3 ∨ v = 4 ∨ v = 5 ∨ v = 6 ∨ v = 7 ∨ v = 8 ∨ v = 9 ∨ v = 10 := by omega
  rcases this with rfl | rfl | rfl | rfl | rfl | rfl | rfl | rfl | rfl | rfl
  · rfl
  · rfl
  · rfl
  · rfl
  · rfl
  · rfl
  · exact h1.1
  · rfl
  · exact h1.2
  · rfl
theorem bts_mod {x : Nat} {n : Nat} : ∀ (m k : Nat), k + m ≤ n → bts ((x : Int) % bm_p2 n) m k = bts x m k
  | 0, _, _ => rfl
  | m + 1, k, h => by
    have ih := bts_mod (x := x) (n := n) m (k + 1) (by omega)
    rw [show ((k + 1 : Nat) : Int) = (k : Int) + 1 by omega] at ih
    show ((x : Int) % bm_p2 n) / bm_p2 k % 2 :: bts ((x : Int) % bm_p2 n) m ((k : Int) + 1) = (x : Int) / bm_p2 k % 2 :: bts x m ((k : Int) + 1)
    rw [ih]
    have e : ((x : Int) % bm_p2 n) / bm_p2 k % 2 = (x : Int) / bm_p2 k % 2 := by
      have en : ∀ q : Nat, bm_p2 (q : Int) = ((2 ^ q : Nat) : Int) := fun q => by unfold bm_p2; rw [Int.toNat_natCast]
      rw [en, en]
      have e1 : x % 2 ^ n / 2 ^ k % 2 = x / 2 ^ k % 2 := by
        rw [show n = k + (1 + (n - k - 1)) by omega, Nat.pow_add, Nat.mod_mul_right_div_self, Nat.pow_add, Nat.pow_one, Nat.mod_mul_right_mod]
      rw [← Int.natCast_emod, ← Int.natCast_ediv, ← Int.natCast_ediv]
      generalize x % 2 ^ n / 2 ^ k = u at e1 ⊢
      generalize x / 2 ^ k = v at e1 ⊢
      omega
    rw [e]
def MU (ι : bm_S) (nc : Int) (A : Int → Int → Int) (T : Int → Int) (N : Int) (g c : Int → Int) (lv : Int) (L0 L1 L2 : Int → Int) : Prop := CmB ι nc A ∧ TMo ι T N ∧ (∀ q, 0 ≤ q → q < N → WQ ι T N g c lv q) ∧ MS ι 120 256 L0 ∧ MS ι 3192 704 L1 ∧ MS ι 11640 64 L2
theorem MU.fr {ι ι' : bm_S} {nc : Int} (h : MU ι nc A T N g c lv L0 L1 L2) (hF : Fr gW ι ι') : MU ι' nc A T N g c lv L0 L1 L2 := ⟨h.1.fr hF ⟨by omega, fun t j _ _ => by omega⟩, TMo_fr h.2.1 hF ⟨by omega, fun j => by omega⟩, fun q x y => (h.2.2.1 q x y).fr hF (fun t _ _ => by omega), h.2.2.2.1.fr hF ⟨by omega, fun j _ _ => by omega⟩, h.2.2.2.2.1.fr hF ⟨by omega, fun j _ _ => by omega⟩, h.2.2.2.2.2.fr hF ⟨by omega, fun j _ _ => by omega⟩⟩
theorem m_cm97 {Q : bm_O → bm_S → Prop} {nc : Nat} {k p : Int} {e : Nat} {v4 v5 v7 : bm_V} (hN : N ≤ 2000) (hp : 0 ≤ p ∧ p + e ≤ N) (h0 : ∀ s, 0 ≤ s → s < 256 → 0 ≤ L0 s ∧ L0 s ≤ 15) : ∀ (m j : Nat) (l : List Int) (ι : bm_S), j + m = e → MU ι nc A T N g c lv L0 L1 L2 → MB ι l → (l.length : Int) + (ltb L0 T m (p + j)).length ≤ 32768 → (∀ ι' : bm_S, MB ι' (l ++ ltb L0 T m (p + j)) → Fr gW ι ι' → bW sc 256 97 [br 13 0, bi (p + e), bi k, bi (e : Int), v4, v5, bi (e : Int), v7] [] ι' Q) → bW sc 256 97 [br 13 0, bi (p + j), bi k, bi (e : Int), v4, v5, bi (j : Int), v7] [] ι Q := by
  intro m
  induction m with
  | zero =>
    intro j l ι hj hU hC hr h
    rw [show (j : Int) = (e : Int) by omega]
    exact h ι (by show MB ι (l ++ []); rw [List.append_nil]; exact hC) (Fr.refl _ _)
  | succ m ih =>
    intro j l ι hj hU hC hr h
    have b := h0 (T (p + j) % 256) (by omega) (by omega)
    rw [ltb_s] at hr h
    rw [app_len, sgb_len b.1] at hr
    refine e_M_writeCommands_97 (bif_f (by omega) ⟨by omega, ?_⟩)
    rw [hU.2.1.2 (p + j) (by omega) (by omega)]
    refine m_sign (a := 256) (by omega) (by omega) hU.2.2.2.1 b hC (by omega) (fun ι1 C1 F1 => ⟨by omega, by omega, ?_⟩)
    rw [show p + (j : Int) + 1 = p + ((j + 1 : Nat) : Int) by omega] at hr h ⊢
    rw [show (j : Int) + 1 = ((j + 1 : Nat) : Int) by omega]
    refine ih (j + 1) _ ι1 (by omega) (hU.fr F1) C1 (by rw [app_len, sgb_len b.1]; omega) (fun ι' C2 F2 => h ι' ?_ (F1.trans F2))
    rw [List.append_assoc] at C2; exact C2
theorem m_cm4 {nc : Nat} (hN : 0 ≤ N ∧ N ≤ 2000) (hf : f = mk lv (cf T N) (wdM T N g c) N) (hw : wyf = wy lv (cf T N) (wdM T N g c) N) (hf4 : ∀ p, 0 ≤ p → p < N → wyf p ≠ 0 → 4 ≤ f p) (hnc : nc ≤ 501) (h0 : ∀ s, 0 ≤ s → s < 256 → 0 ≤ L0 s ∧ L0 s ≤ 15) (h1 : ∀ s, 0 ≤ s → s < 704 → 0 ≤ L1 s ∧ L1 s ≤ 15) (h2 : ∀ s, 0 ≤ s → s < 64 → 0 ≤ L2 s ∧ L2 s ≤ 15) : ∀ (n k ix : Nat) (l : List Int) (ι : bm_S) (v3 v4 v5 v6 v7 : bm_V), LSt f wyf N A n k ix → k + n = nc → MU ι nc A T N g c lv L0 L1 L2 → MB ι l → (l.length : Int) + (cmdB A T L0 L1 L2 n k (rch f N ix)).length ≤ 32768 → (∀ ι' : bm_S, MB ι' (l ++ cmdB A T L0 L1 L2 n k (rch f N ix)) → Fr gW ι ι' → K ι') → bW sc 256 4 [br 13 0, bi (rch f N ix), bi (k : Int), v3, v4, v5, v6, v7] [] ι (bk0 K H) := by
  have hmk : ∀ p, 0 ≤ p → p < N → 1 ≤ f p ∧ p + f p ≤ N := by rw [hf]; exact mk_ab hN.2
  intro n
  induction n with
  | zero =>
    intro k ix l ι v3 v4 v5 v6 v7 hL hk hU hC hr h
    exact e_M_writeCommands_4 (bif_t (by rw [hU.1.1]; omega) (h ι (by show MB ι (l ++ []); rw [List.append_nil]; exact hC) (Fr.refl _ _)))
  | succ n ih =>
    intro k ix l ι v3 v4 v5 v6 v7 hL hk hU hC hr h
    obtain ⟨e, ix', a0, a1, a2, a3, a4, a5, a6, a7, a8, a9, a10, a11⟩ := LSt_h (T := T) hN hmk hf4 hL
    have r := rch_rg hN.1 hmk ix
    have r2 := rch_rg hN.1 hmk (ix + e)
    have r3 := rch_rg hN.1 hmk ix'
    have b3 := h1 _ a3.1 a3.2
    have ci := ci_rg (e := A 0 k) (by omega)
    rw [cmdB_s] at hr h
    rw [app_len, app_len, app_len, app_len, app_len, sgb_len b3.1, bts_len] at hr
    have cc := hU.1.2 k (by omega) (by omega)
    -- the bits of the copy
    have cyb : cod ya (A 6 k) 24 < 24 ∧ 0 ≤ cod ya (A 6 k) 24 ∧ (bm_rg (A 6 k - ya (cod ya (A 6 k) 24))) ∧ (0 ≤ yb (cod ya (A 6 k) 24) ∧ yb (cod ya (A 6 k) 24) ≤ 7) ∧ bts (A 6 k - ya (cod ya (A 6 k) 24)) (yb (cod ya (A 6 k) 24)).toNat 0 = cpb A k := by
      rcases a11 with ⟨b1, b6, b4, b5, b0, bN⟩ | ⟨b1, b6, b2, b3', b5, b54, bN⟩
      · have e2 : cpb A k = [] := by unfold cpb; rw [if_pos b1]
        rw [b6, e2]
        decide
      · have cy := cy_rg b1
        rw [b6]
        have e2 : cpb A k = bts (A 1 k - ya (cod ya (A 1 k) 24)) (yb (cod ya (A 1 k) 24)).toNat 0 := by unfold cpb; rw [if_neg (by omega)]
        exact ⟨cy.1.2, cy.1.1, by omega, cy.2.1, e2.symm⟩
    refine e_M_writeCommands_4 (bif_f (by rw [hU.1.1]; omega) ⟨by omega, by omega, ?_⟩)
    rw [cc.1]
    refine m_codeOf (t := ia) (Or.inr ⟨rfl, rfl⟩) ⟨by omega, ?_⟩
    rw [cc.2.2.2.2.2]
    refine m_codeOf (t := ya) (Or.inl ⟨rfl, rfl⟩) ⟨by omega, by omega, by omega, ?_⟩
    rw [cc.2.2.2.1]
    refine m_sign (a := 704) (by omega) a3 hU.2.2.2.2.1 b3 hC (by omega) (fun ι1 C1 F1 => ?_)
    have U1 := hU.fr F1
    refine m_insertBase ci.1 ⟨by omega, m_insertBits ci.1 (m_pu (by omega) (by rw [app_len, sgb_len b3.1]; omega) C1 (fun ι2 C2 F2 => ⟨by omega, m_copyBase ⟨cyb.2.1, cyb.1⟩ ?_⟩))⟩
    have U2 := U1.fr F2
    have c2 := U2.1.2 k (by omega) (by omega)
    rw [c2.2.2.2.2.2]
    have lcp : ((cpb A k).length : Int) = yb (cod ya (A 6 k) 24) := by rw [← cyb.2.2.2.2, bts_len]; omega
    refine ⟨cyb.2.2.1, m_copyBits ⟨cyb.2.1, cyb.1⟩ (m_pu (by omega) (by rw [app_len, app_len, sgb_len b3.1, bts_len]; omega) C2 (fun ι3 C3 F3 => ?_))⟩
    rw [cyb.2.2.2.2] at C3
    have U3 := U2.fr F3
    have len3 : ((((l ++ sgb L1 704 (A 3 k)) ++ bts (A 0 k - ia (cod ia (A 0 k) 24)) (ib (cod ia (A 0 k) 24)).toNat 0) ++ cpb A k).length : Int) = l.length + L1 (A 3 k) + ((ib (cod ia (A 0 k) 24)).toNat : Nat) + (cpb A k).length := by rw [app_len, app_len, app_len, sgb_len b3.1, bts_len]
    rw [show (A 0 k).toNat = e by omega] at hr h
    have e0 : rch f N ix + ((0 : Nat) : Int) = rch f N ix := by omega
    have ea : A 0 k = (e : Int) := a0
    have loop := m_cm97 (sc := sc) (Q := bk0 K H) (nc := nc) (k := k) (p := rch f N ix) (e := e) (v4 := bi (cod ia (A 0 k) 24)) (v5 := bi (cod ya (A 6 k) 24)) (v7 := v7) hN.2 (by omega) h0 e 0 _ ι3 (by omega) U3 C3 (by rw [len3, e0]; omega)
    rw [e0] at loop
    rw [← ea] at loop
    rw [← ea] at a2
    refine loop (fun ι4 C4 F4 => ?_)
    have U4 := U3.fr F4
    have c4 := U4.1.2 k (by omega) (by omega)
    have F14 : Fr gW ι ι4 := ((F1.trans F2).trans F3).trans F4
    have len4 : (((((l ++ sgb L1 704 (A 3 k)) ++ bts (A 0 k - ia (cod ia (A 0 k) 24)) (ib (cod ia (A 0 k) 24)).toNat 0) ++ cpb A k) ++ ltb L0 T e (rch f N ix)).length : Int) = l.length + L1 (A 3 k) + ((ib (cod ia (A 0 k) 24)).toNat : Nat) + (cpb A k).length + (ltb L0 T e (rch f N ix)).length := by rw [app_len, len3]
    -- the next command
    have next : ∀ (ι5 : bm_S) (v3 v4 v5 v6 v7 : bm_V), MB ι5 (((((l ++ sgb L1 704 (A 3 k)) ++ bts (A 0 k - ia (cod ia (A 0 k) 24)) (ib (cod ia (A 0 k) 24)).toNat 0) ++ cpb A k) ++ ltb L0 T e (rch f N ix)) ++ dsb A L2 k) → Fr gW ι4 ι5 → bW sc 256 4 [br 13 0, bi (rch f N ix'), bi ((k : Int) + 1), v3, v4, v5, v6, v7] [] ι5 (bk0 K H) := fun ι5 v3 v4 v5 v6 v7 C5 F5 => by
      rw [a6] at hr h
      rw [show (k : Int) + 1 = ((k + 1 : Nat) : Int) by omega] at hr h ⊢
      refine ih (k + 1) ix' _ ι5 _ _ _ _ _ (by rw [show ((k + 1 : Nat) : Int) = (k : Int) + 1 by omega]; exact a7) (by omega) (U4.fr F5) C5 (by rw [app_len, len4]; omega) (fun ι' C6 F6 => h ι' ?_ ((F14.trans F5).trans F6))
      simp only [List.append_assoc] at C6
      exact C6
    have fin : ∀ (ι5 : bm_S) (v3 v4 v5 v6 v7 : bm_V), MB ι5 (((((l ++ sgb L1 704 (A 3 k)) ++ bts (A 0 k - ia (cod ia (A 0 k) 24)) (ib (cod ia (A 0 k) 24)).toNat 0) ++ cpb A k) ++ ltb L0 T e (rch f N ix)) ++ dsb A L2 k) → Fr gW ι4 ι5 → (if ι5 13 0 59 ≤ rch f N ix + A 0 k then (bm_rg ((k : Int) + 1)) ∧ bW sc 256 4 [br 13 0, bi (rch f N ix + A 0 k), bi ((k : Int) + 1), v3, v4, v5, v6, v7] [] ι5 (bk0 K H) else bC sc 247 [br 13 0, bi (rch f N ix + A 0 k)] ι5 (bk1 (fun r1 ι1 => (bm_rg (rch f N ix + A 0 k + r1)) ∧ (bm_rg ((k : Int) + 1)) ∧ bW sc 256 4 [br 13 0, bi (rch f N ix + A 0 k + r1), bi ((k : Int) + 1), v3, v4, v5, v6, v7] [] ι1 (bk0 K H)) (bq (bk0 K H)))) := fun ι5 v3 v4 v5 v6 v7 C5 F5 => by
      have U5 := U4.fr F5
      rw [U5.2.1.1]
      rcases a11 with ⟨b1, b6, b4, b5, b0, bN⟩ | ⟨b1, b6, b2, b3', b5, b54, bN⟩
      · refine bif_t (by omega) ⟨by omega, ?_⟩
        rw [show rch f N ix + A 0 k = rch f N ix' by omega]
        exact next ι5 _ _ _ _ _ C5 F5
      · refine bif_f (by omega) ?_
        rw [← a2]
        refine m_madeBy (lv := lv) (by omega) hN.2 bN (U5.2.2.1 _ r2.1 bN) ?_
        rw [← hf, show rch f N (ix + e) + f (rch f N (ix + e)) = rch f N ix' by omega]
        exact ⟨by omega, by omega, next ι5 _ _ _ _ _ C5 F5⟩
    refine e_M_writeCommands_97 (bif_t (by omega) ⟨by omega, ?_⟩)
    rw [c4.2.2.2.2.1]
    by_cases z : A 4 k < 0
    · have ed : dsb A L2 k = [] := by unfold dsb; rw [if_pos z]
      exact bif_t z (fin ι4 _ _ _ _ _ (by rw [ed, List.append_nil]; exact C4) (Fr.refl _ _))
    · have b4 := h2 (A 4 k) (by omega) a4.2
      have ed : dsb A L2 k = sgb L2 64 (A 4 k) ++ (if A 4 k < 16 then [] else bts (A 2 k + 3) (1 + (A 4 k - 16) / 2).toNat 0) := by unfold dsb; rw [if_neg z]
      rw [ed, app_len, sgb_len b4.1] at hr
      refine bif_f z (m_sign (a := 64) (by omega) (by omega) U4.2.2.2.2.2 b4 C4 (by rw [len4]; omega) (fun ι5 C5 F5 => ?_))
      have c5 := (U4.fr F5).1.2 k (by omega) (by omega)
      by_cases y : A 4 k < 16
      · rw [if_pos y, List.append_nil] at ed
        exact bif_t (by omega) (fin ι5 _ _ _ _ _ (by rw [ed]; exact C5) F5)
      · rw [if_neg y] at ed
        rw [if_neg y, bts_len] at hr
        refine bif_f (by omega) ?_
        rw [c5.2.2.1]
        have key : (1 ≤ A 2 k ∧ A 2 k + 3 < 4096) ∧ 1 ≤ 1 + (A 4 k - 16) / 2 ∧ 1 + (A 4 k - 16) / 2 ≤ 10 := by
          rcases a11 with ⟨b1, b6, b4', b5, b0, bN⟩ | ⟨b1, b6, b2, b3', b5, b54, bN⟩
          · omega
          · exact ⟨b2, b3' (by omega)⟩
        have pl := p2_le (k := 1 + (A 4 k - 16) / 2) 10 key.2.2 1024 rfl
        have bd := band_10 (x := A 2 k + 3) (v := 1 + (A 4 k - 16) / 2) (by omega) key.2
        have bm : bts ((A 2 k + 3) % bm_p2 (1 + (A 4 k - 16) / 2)) (1 + (A 4 k - 16) / 2).toNat 0 = bts (A 2 k + 3) (1 + (A 4 k - 16) / 2).toNat 0 := by
          have := bts_mod (x := (A 2 k + 3).toNat) (n := (1 + (A 4 k - 16) / 2).toNat) (1 + (A 4 k - 16) / 2).toNat 0 (by omega)
          rw [show (((A 2 k + 3).toNat : Nat) : Int) = A 2 k + 3 by omega, show (((1 + (A 4 k - 16) / 2).toNat : Nat) : Int) = 1 + (A 4 k - 16) / 2 by omega] at this
          exact this
        rw [bd]
        refine ⟨by omega, by omega, by omega, by omega, by omega, by omega, by omega, ⟨by omega, by omega⟩, by omega, m_pu (by omega) (by rw [app_len, len4, sgb_len b4.1]; omega) C5 (fun ι6 C6 F6 => ?_)⟩
        rw [bm] at C6
        exact fin ι6 _ _ _ _ _ (by rw [ed, ← List.append_assoc]; exact C6) (F5.trans F6)
end MCmds
