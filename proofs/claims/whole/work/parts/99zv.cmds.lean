/-! pack: the commands written, comp -/
section PCmds
variable {sc : bm_Sc} {H : Nat × Int → bm_S → Prop} {K : bm_S → Prop} {f wyf T : Int → Int} {N : Int} {A : Int → Int → Int} {L0 L1 L2 : Int → Int}
def CU (ι : bm_S) (nc : Int) (A : Int → Int → Int) (T : Int → Int) (N : Int) (L0 L1 L2 : Int → Int) : Prop := CmA ι nc A ∧ TCo ι T N ∧ CS ι 0 256 L0 ∧ CS ι 1 704 L1 ∧ CS ι 2 64 L2
theorem CU.fr {ι ι' : bm_S} {nc : Int} (h : CU ι nc A T N L0 L1 L2) (hF : Fr fW ι ι') : CU ι' nc A T N L0 L1 L2 := ⟨h.1.fr hF ⟨by omega, fun t j _ _ => by omega⟩, h.2.1.fr hF (fun j => by omega), h.2.2.1.fr hF (fun j => by omega), h.2.2.2.1.fr hF (fun j => by omega), h.2.2.2.2.fr hF (fun j => by omega)⟩
theorem ltb_s (m : Nat) (p : Int) : ltb L0 T (m + 1) p = sgb L0 256 (T p % 256) ++ ltb L0 T m (p + 1) := rfl
theorem s_cm109 {Q : bm_O → bm_S → Prop} {nc : Nat} {k p : Int} {e : Nat} {v3 v4 : bm_V} (hN : N ≤ 2000) (hk : 0 ≤ k ∧ k < 501) (hp : 0 ≤ p ∧ p + e ≤ N) (h0 : ∀ s, 0 ≤ s → s < 256 → 0 ≤ L0 s ∧ L0 s ≤ 15) : ∀ (m j : Nat) (l : List Int) (ι : bm_S), j + m = e → CU ι nc A T N L0 L1 L2 → ι 55 0 k = e → CB ι l → (l.length : Int) + (ltb L0 T m (p + j)).length ≤ 32768 → (∀ ι' : bm_S, CB ι' (l ++ ltb L0 T m (p + j)) → Fr fW ι ι' → bW sc 107 109 [br 9 0, bi p, bi k, v3, v4, bi (e : Int)] [] ι' Q) → bW sc 107 109 [br 9 0, bi p, bi k, v3, v4, bi (j : Int)] [] ι Q := by
  intro m
  induction m with
  | zero =>
    intro j l ι hj hU h5 hC hr h
    rw [show (j : Int) = (e : Int) by omega]
    exact h ι (by show CB ι (l ++ []); rw [List.append_nil]; exact hC) (Fr.refl _ _)
  | succ m ih =>
    intro j l ι hj hU h5 hC hr h
    have b := h0 (T (p + j) % 256) (by omega) (by omega)
    rw [ltb_s] at hr h
    rw [app_len, sgb_len b.1] at hr
    refine e_P_writeCommands_109 ⟨by omega, bif_f (by omega) ⟨by omega, s_tb (by omega) hU.2.1 ?_⟩⟩
    rw [tb_in (by omega)]
    refine s_sign CWL0 (by omega) hU.2.2.1 b hC (by omega) (fun ι1 C1 F1 => ⟨by omega, ?_⟩)
    rw [show (j : Int) + 1 = ((j + 1 : Nat) : Int) by omega]
    rw [show p + (j : Int) + 1 = p + ((j + 1 : Nat) : Int) by omega] at hr h
    refine ih (j + 1) _ ι1 (by omega) (hU.fr F1) (by rw [F1 55 0 k (by omega)]; exact h5) C1 (by rw [app_len, sgb_len b.1]; omega) (fun ι' C2 F2 => h ι' ?_ (F1.trans F2))
    rw [List.append_assoc] at C2; exact C2
theorem s_cm4 {nc : Nat} (hN : 0 ≤ N ∧ N ≤ 2000) (hf : ∀ p, 0 ≤ p → p < N → 1 ≤ f p ∧ p + f p ≤ N) (hf4 : ∀ p, 0 ≤ p → p < N → wyf p ≠ 0 → 4 ≤ f p) (hnc : nc ≤ 501) (h0 : ∀ s, 0 ≤ s → s < 256 → 0 ≤ L0 s ∧ L0 s ≤ 15) (h1 : ∀ s, 0 ≤ s → s < 704 → 0 ≤ L1 s ∧ L1 s ≤ 15) (h2 : ∀ s, 0 ≤ s → s < 64 → 0 ≤ L2 s ∧ L2 s ≤ 15) : ∀ (n k ix : Nat) (l : List Int) (ι : bm_S) (v3 v4 v5 : bm_V), LSt f wyf N A n k ix → k + n = nc → CU ι nc A T N L0 L1 L2 → CB ι l → (l.length : Int) + (cmdB A T L0 L1 L2 n k (rch f N ix)).length ≤ 32768 → (∀ ι' : bm_S, CB ι' (l ++ cmdB A T L0 L1 L2 n k (rch f N ix)) → Fr fW ι ι' → K ι') → bW sc 107 4 [br 9 0, bi (rch f N ix), bi (k : Int), v3, v4, v5] [] ι (bk0 K H) := by
  intro n
  induction n with
  | zero =>
    intro k ix l ι v3 v4 v5 hL hk hU hC hr h
    exact e_P_writeCommands_4 (bif_t (by rw [hU.1.1]; omega) (h ι (by show CB ι (l ++ []); rw [List.append_nil]; exact hC) (Fr.refl _ _)))
  | succ n ih =>
    intro k ix l ι v3 v4 v5 hL hk hU hC hr h
    obtain ⟨e, ix', a0, a1, a2, a3, a4, a5, a6, a7, a8, a9, a10, a11⟩ := LSt_h (T := T) hN hf hf4 hL
    have r := rch_rg hN.1 hf ix
    have r2 := rch_rg hN.1 hf (ix + e)
    have r3 := rch_rg hN.1 hf ix'
    have b3 := h1 _ a3.1 a3.2
    have ci := ci_rg (e := A 0 k) (by omega)
    rw [cmdB_s] at hr h
    rw [app_len, app_len, app_len, app_len, app_len, sgb_len b3.1, bts_len] at hr
    have c := hU.1.2 k (by omega) (by omega)
    refine e_P_writeCommands_4 (bif_f (by rw [hU.1.1]; omega) ⟨by omega, ?_⟩)
    rw [c.2.2.2.1]
    refine s_sign CWL1 a3 hU.2.2.2.1 b3 hC (by omega) (fun ι1 C1 F1 => ⟨by omega, ?_⟩)
    have U1 := hU.fr F1
    have c1 := U1.1.2 k (by omega) (by omega)
    rw [c1.1]
    refine s_codeOf200 ⟨by omega, ?_⟩
    rw [c1.2.1]
    refine s_codeOf201 ?_
    rw [c1.1, X200, X207]
    refine ⟨by omega, ci.1, by omega, ci.1, s_pu (by omega) (by omega) (by rw [app_len, sgb_len b3.1]; omega) C1 (fun ι2 C2 F2 => ?_)⟩
    have U2 := U1.fr F2
    have c2 := U2.1.2 k (by omega) (by omega)
    rw [c2.2.1, X201, X208]
    have cy24 := cod24 ya (A 1 k)
    have yr := (ib_rg cy24).1
    -- what is behind the bits of the copy
    have rest : ∀ ι3 : bm_S, CB ι3 (((l ++ sgb L1 704 (A 3 k)) ++ bts (A 0 k - ia (cod ia (A 0 k) 24)) (ib (cod ia (A 0 k) 24)).toNat 0) ++ cpb A k) → Fr fW ι2 ι3 → bW sc 107 109 [br 9 0, bi (rch f N ix), bi (k : Int), bi (cod ia (A 0 k) 24), bi (cod ya (A 1 k) 24), bi 0] [] ι3 (bk0 K H) := fun ι3 C3 F3 => by
      have U3 := U2.fr F3
      have c3 := U3.1.2 k (by omega) (by omega)
      have len3 : ((((l ++ sgb L1 704 (A 3 k)) ++ bts (A 0 k - ia (cod ia (A 0 k) 24)) (ib (cod ia (A 0 k) 24)).toNat 0) ++ cpb A k).length : Int) = l.length + L1 (A 3 k) + ((ib (cod ia (A 0 k) 24)).toNat : Nat) + (cpb A k).length := by rw [app_len, app_len, app_len, sgb_len b3.1, bts_len]
      rw [show (A 0 k).toNat = e by omega] at hr h
      have e0 : rch f N ix + ((0 : Nat) : Int) = rch f N ix := by omega
      refine s_cm109 (e := e) hN.2 (by omega) (by omega) h0 e 0 _ ι3 (by omega) U3 (by rw [c3.1]; exact a0) C3 (by rw [len3, e0]; omega) (fun ι4 C4 F4 => ?_)
      rw [e0] at C4
      have U4 := U3.fr F4
      have c4 := U4.1.2 k (by omega) (by omega)
      have F14 : Fr fW ι ι4 := ((F1.trans F2).trans F3).trans F4
      have len4 : (((((l ++ sgb L1 704 (A 3 k)) ++ bts (A 0 k - ia (cod ia (A 0 k) 24)) (ib (cod ia (A 0 k) 24)).toNat 0) ++ cpb A k) ++ ltb L0 T e (rch f N ix)).length : Int) = l.length + L1 (A 3 k) + ((ib (cod ia (A 0 k) 24)).toNat : Nat) + (cpb A k).length + (ltb L0 T e (rch f N ix)).length := by rw [app_len, len3]
      -- the next command
      have next : ∀ (ι5 : bm_S) (v5 : bm_V), CB ι5 (((((l ++ sgb L1 704 (A 3 k)) ++ bts (A 0 k - ia (cod ia (A 0 k) 24)) (ib (cod ia (A 0 k) 24)).toNat 0) ++ cpb A k) ++ ltb L0 T e (rch f N ix)) ++ dsb A L2 k) → Fr fW ι4 ι5 → bW sc 107 4 [br 9 0, bi (rch f N ix + (A 0 k + A 5 k)), bi ((k : Int) + 1), bi (cod ia (A 0 k) 24), bi (cod ya (A 1 k) 24), v5] [] ι5 (bk0 K H) := fun ι5 v5 C5 F5 => by
        rw [a6] at hr h ⊢
        rw [show (k : Int) + 1 = ((k + 1 : Nat) : Int) by omega] at hr h ⊢
        refine ih (k + 1) ix' _ ι5 _ _ _ (by rw [show ((k + 1 : Nat) : Int) = (k : Int) + 1 by omega]; exact a7) (by omega) (U4.fr F5) C5 (by rw [app_len, len4]; omega) (fun ι' C6 F6 => h ι' ?_ ((F14.trans F5).trans F6))
        simp only [List.append_assoc] at C6
        exact C6
      have fin : ∀ (ι5 : bm_S) (v5 : bm_V), CB ι5 (((((l ++ sgb L1 704 (A 3 k)) ++ bts (A 0 k - ia (cod ia (A 0 k) 24)) (ib (cod ia (A 0 k) 24)).toNat 0) ++ cpb A k) ++ ltb L0 T e (rch f N ix)) ++ dsb A L2 k) → Fr fW ι4 ι5 → (bm_rg (ι5 55 0 (k : Int) + ι5 60 0 (k : Int))) ∧ (bm_rg (rch f N ix + (ι5 55 0 (k : Int) + ι5 60 0 (k : Int)))) ∧ (bm_rg ((k : Int) + 1)) ∧ bW sc 107 4 [br 9 0, bi (rch f N ix + (ι5 55 0 (k : Int) + ι5 60 0 (k : Int))), bi ((k : Int) + 1), bi (cod ia (A 0 k) 24), bi (cod ya (A 1 k) 24), v5] [] ι5 (bk0 K H) := fun ι5 v5 C5 F5 => by
        have c5 := (U4.fr F5).1.2 k (by omega) (by omega)
        rw [c5.1, c5.2.2.2.2.2]
        exact ⟨by omega, by omega, by omega, next ι5 v5 C5 F5⟩
      refine e_P_writeCommands_109 ⟨by omega, bif_t (by rw [c4.1]; omega) ⟨by omega, ?_⟩⟩
      rw [c4.2.2.2.2.1]
      by_cases z : A 4 k < 0
      · have ed : dsb A L2 k = [] := by unfold dsb; rw [if_pos z]
        refine bif_t z ⟨by omega, bif_t (by omega) ⟨by omega, by omega, fin ι4 _ (by rw [ed, List.append_nil]; exact C4) (Fr.refl _ _)⟩⟩
      · have b4 := h2 (A 4 k) (by omega) a4.2
        have ed : dsb A L2 k = sgb L2 64 (A 4 k) ++ (if A 4 k < 16 then [] else bts (A 2 k + 3) (1 + (A 4 k - 16) / 2).toNat 0) := by unfold dsb; rw [if_neg z]
        rw [ed, app_len, sgb_len b4.1] at hr
        refine bif_f z ⟨by omega, s_sign CWL2 (by omega) U4.2.2.2.2 b4 C4 (by rw [len4]; omega) (fun ι5 C5 F5 => ⟨by omega, ?_⟩)⟩
        have c5 := (U4.fr F5).1.2 k (by omega) (by omega)
        rw [c5.2.2.2.2.1, c5.2.2.1]
        by_cases y : A 4 k < 16
        · rw [if_pos y, List.append_nil] at ed
          exact bif_t y ⟨by omega, by omega, fin ι5 _ (by rw [ed]; exact C5) F5⟩
        · rw [if_neg y] at ed
          rw [if_neg y, bts_len] at hr
          rcases a11 with ⟨b1, b6, b4', b5, b0, bN⟩ | ⟨b1, b6, b2, b3', b5, b54, bN⟩
          · omega
          · have bb := b3' (by omega)
            refine bif_f y ⟨by omega, by omega, by omega, by omega, by omega, by omega, s_pu (by omega) (by omega) (by rw [app_len, len4, sgb_len b4.1]; omega) C5 (fun ι6 C6 F6 => ⟨by omega, by omega, fin ι6 _ (by rw [ed, ← List.append_assoc]; exact C6) (F5.trans F6)⟩)⟩
    rcases a11 with ⟨b1, b6, b4, b5, b0, bN⟩ | ⟨b1, b6, b2, b3', b5, b54, bN⟩
    · have e1 : cod ya (A 1 k) 24 = 0 := by rw [b1]; decide
      have e2 : cpb A k = [] := by unfold cpb; rw [if_pos b1]
      have e3 : yb 0 = 0 := by decide
      have e4 : ya 0 = 2 := by decide
      rw [e2] at hr rest
      rw [List.append_nil] at rest
      refine ⟨by omega, cy24, by omega, cy24, ?_⟩
      have l2 : (((l ++ sgb L1 704 (A 3 k)) ++ bts (A 0 k - ia (cod ia (A 0 k) 24)) (ib (cod ia (A 0 k) 24)).toNat 0).length : Int) ≤ 32768 := by
        rw [app_len, app_len, sgb_len b3.1, bts_len]
        have : (0 : Int) ≤ (([] : List Int).length : Int) := by omega
        omega
      have yz : yb (cod ya (A 1 k) 24) = 0 := by rw [e1]; exact e3
      rw [yz]
      exact s_pu0 l2 C2 (fun ι3 C3 F3 => rest ι3 C3 F3)
    · have cy := cy_rg b1
      have e2 : cpb A k = bts (A 1 k - ya (cod ya (A 1 k) 24)) (yb (cod ya (A 1 k) 24)).toNat 0 := by unfold cpb; rw [if_neg (by omega)]
      have l2 : (((l ++ sgb L1 704 (A 3 k)) ++ bts (A 0 k - ia (cod ia (A 0 k) 24)) (ib (cod ia (A 0 k) 24)).toNat 0).length : Int) = l.length + L1 (A 3 k) + ((ib (cod ia (A 0 k) 24)).toNat : Nat) := by rw [app_len, app_len, sgb_len b3.1, bts_len]
      rw [e2, bts_len] at hr
      rw [e2] at rest
      exact ⟨by omega, cy24, by omega, cy24, s_pu (by omega) (by omega) (by rw [l2]; omega) C2 (fun ι3 C3 F3 => rest ι3 C3 F3)⟩
end PCmds
