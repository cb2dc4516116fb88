/-! pack: a code told, the other -/
section MTell
variable {sc : bm_Sc} {H : Nat × Int → bm_S → Prop} {K : bm_S → Prop} {ι : bm_S} {l : List Int} {L w LM : Int → Int} {a st Wd e : Int}
theorem m_layI (ha : 1 ≤ a ∧ a ≤ 704) (hst : 0 ≤ st ∧ st + a ≤ 18000) (h71 : ∀ s, 0 ≤ s → s < a → ι 71 0 (st + s) = L s) (h : ∀ ι' : bm_S, (∀ s, 0 ≤ s → s < a → ι' 71 0 (st + s) = L s ∧ (1 ≤ L s → L s ≤ 15 → ι' 72 0 (st + s) = cd L a s)) → Fr (fun t _ j => t = 72 ∧ st ≤ j ∧ j < st + a) ι ι' → K ι') : bC sc 171 [br 13 0, bi st, bi a] ι (bk0 K H) := by
  obtain ⟨b, rfl⟩ : ∃ b : Nat, a = b := ⟨a.toNat, by omega⟩
  refine m_layCodes (L := L) (lone := ι 73 0 st) (by omega) hst (fun s hs => h71 s (by omega) (by omega)) rfl (fun ι' hC F => h ι' (fun s x y => ?_) F)
  have q := hC.2 s.toNat (by omega)
  rw [show ((s.toNat : Nat) : Int) = s by omega] at q
  exact ⟨q.1, fun y z => q.2 y z⟩
theorem m_zero43 {Q : bm_O → bm_S → Prop} {v1 v2 v3 v5 v6 v7 : bm_V} : ∀ (m k : Nat) (ι : bm_S), k + m = 18 → (∀ s, 0 ≤ s → s < (k : Int) → ι 93 0 s = 0) → (∀ ι' : bm_S, (∀ s, 0 ≤ s → s < 18 → ι' 93 0 s = 0) → Fr (fun t _ _ => t = 93) ι ι' → bW sc 244 67 [br 13 0, v1, v2, v3, bi 0, v5, v6, v7] [] ι' Q) → bW sc 244 43 [br 13 0, v1, v2, v3, bi (k : Int), v5, v6, v7] [] ι Q := by
  intro m
  induction m with
  | zero => intro k ι hk hz h; exact e_M_writeCode_43 (bif_t (by omega) (h ι (fun s x y => hz s x (by omega)) (Fr.refl _ _)))
  | succ m ih =>
    intro k ι hk hz h
    refine e_M_writeCode_43 (bif_f (by omega) ⟨by omega, by omega, ?_⟩)
    rw [show (k : Int) + 1 = ((k + 1 : Nat) : Int) by omega]
    have F1 : Fr (fun t _ _ => t = 93) ι (up ι 93 0 (k : Int) 0) := (Fr.refl _ _).u rfl
    refine ih (k + 1) _ (by omega) (fun s x y => ?_) (fun ι' b F2 => h ι' b (F1.trans F2))
    rw [up_at]
    by_cases z : s = (k : Int)
    · rw [if_pos z]
    · rw [if_neg z]; exact hz s x (by omega)
theorem m_cnt67 {Q : bm_O → bm_S → Prop} {v1 v2 v3 v5 v6 v7 : bm_V} (hmm : mM L e ≤ 704) (hk : ∀ k : Nat, k < mM L e → 0 ≤ mkk L e k ∧ mkk L e k < 18) : ∀ (m k : Nat) (ι : bm_S), k + m = mM L e → MkM ι L e (mM L e) → (∀ s, 0 ≤ s → s < 18 → ι 93 0 s = cw (mkk L e) k s) → (∀ ι' : bm_S, (∀ s, 0 ≤ s → s < 18 → ι' 93 0 s = cw (mkk L e) (mM L e) s) → Fr (fun t _ _ => t = 93) ι ι' → bW sc 244 67 [br 13 0, v1, v2, v3, bi (mM L e : Int), v5, v6, v7] [] ι' Q) → bW sc 244 67 [br 13 0, v1, v2, v3, bi (k : Int), v5, v6, v7] [] ι Q := by
  intro m
  induction m with
  | zero => intro k ι h1 h2 h3 h; rw [show k = mM L e by omega] at h3 ⊢; exact h ι h3 (Fr.refl _ _)
  | succ m ih =>
    intro k ι h1 h2 h3 h
    have q := hk k (by omega)
    have c := cw_rg (f := mkk L e) (mkk L e k) k
    refine e_M_writeCode_67 (bif_f (by rw [h2.1]; omega) ⟨by omega, ?_⟩)
    rw [(h2.2 k (by omega)).1, h3 _ q.1 q.2]
    refine ⟨by omega, by omega, by omega, by omega, ?_⟩
    rw [show (k : Int) + 1 = ((k + 1 : Nat) : Int) by omega]
    have F1 : Fr (fun t _ _ => t = 93) ι (up ι 93 0 (mkk L e k) (cw (mkk L e) k (mkk L e k) + 1)) := (Fr.refl _ _).u rfl
    refine ih (k + 1) _ (by omega) ⟨by rw [F1 13 0 50 (by omega)]; exact h2.1, fun i hi => by rw [F1 94 0 i (by omega), F1 95 0 i (by omega)]; exact h2.2 i hi⟩ (fun s x y => ?_) (fun ι' b F2 => h ι' b (F1.trans F2))
    rw [up_at, cw_s]
    by_cases z : s = mkk L e k
    · rw [if_pos z, if_pos z.symm, z]
    · rw [if_neg z, if_neg (fun q => z q.symm), h3 s x y]; omega
theorem m_put213 {v1 v2 v3 v4 v5 v7 : bm_V} (hmm : mM L e ≤ 704) (hk : ∀ k : Nat, k < mM L e → 0 ≤ mkk L e k ∧ mkk L e k < 18 ∧ (mkk L e k = 17 → 3 ≤ rnn L e k ∧ rnn L e k ≤ 10)) (hM : ∀ s, 0 ≤ s → s < 18 → 0 ≤ LM s ∧ LM s ≤ 5) : ∀ (m k : Nat) (l : List Int) (ι : bm_S), k + m = mM L e → MkM ι L e (mM L e) → MS ι 17910 18 LM → MB ι l → (l.length : Int) + 8 * m ≤ 32768 → (∀ ι' : bm_S, MB ι' (l ++ mkb L e LM m k) → Fr gW ι ι' → K ι') → bW sc 244 213 [br 13 0, v1, v2, v3, v4, v5, bi (k : Int), v7] [] ι (bk0 K H) := by
  intro m
  induction m with
  | zero =>
    intro k l ι h1 h2 h3 hC hr h
    exact e_M_writeCode_213 (bif_t (by rw [h2.1]; omega) (h ι (by show MB ι (l ++ []); rw [List.append_nil]; exact hC) (Fr.refl _ _)))
  | succ m ih =>
    intro k l ι h1 h2 h3 hC hr h
    have q := hk k (by omega)
    have r := hM _ q.1 q.2.1
    rw [mkb_s] at h
    refine e_M_writeCode_213 (bif_f (by rw [h2.1]; omega) ⟨by omega, ?_⟩)
    rw [(h2.2 k (by omega)).1]
    refine m_sign (a := 18) (by omega) ⟨q.1, q.2.1⟩ h3 (by omega) hC (by omega) (fun ι1 C1 F1 => ⟨by omega, ?_⟩)
    have g2 : MkM ι1 L e (mM L e) := ⟨by rw [F1 13 0 50 (by omega)]; exact h2.1, fun i hi => by rw [F1 94 0 i (by omega), F1 95 0 i (by omega)]; exact h2.2 i hi⟩
    have g3 : MS ι1 17910 18 LM := h3.fr F1 ⟨by omega, fun j _ _ => by omega⟩
    rw [(g2.2 k (by omega)).1]
    have cl : ((l ++ sgb LM 18 (mkk L e k)).length : Int) ≤ l.length + 5 := by rw [app_len, sgb_len r.1]; omega
    refine bif_i (fun z => ?_) (fun z => ⟨by omega, ?_⟩)
    · have zz := q.2.2 z
      rw [(g2.2 k (by omega)).2 z]
      rw [if_pos z] at h
      refine ⟨by omega, by omega, m_pu (by omega) (by omega) C1 (fun ι2 C2 F2 => ⟨by omega, ?_⟩)⟩
      rw [show (k : Int) + 1 = ((k + 1 : Nat) : Int) by omega]
      refine ih (k + 1) _ ι2 (by omega) ⟨by rw [F2 13 0 50 (by omega)]; exact g2.1, fun i hi => by rw [F2 94 0 i (by omega), F2 95 0 i (by omega)]; exact g2.2 i hi⟩ (g3.fr F2 ⟨by omega, fun j _ _ => by omega⟩) C2 (by rw [app_len, bts_len]; omega) (fun ι' C3 F3 => h ι' ?_ ((F1.trans F2).trans F3))
      rw [List.append_assoc, List.append_assoc] at C3
      exact C3
    · rw [if_neg z, List.nil_append] at h
      rw [show (k : Int) + 1 = ((k + 1 : Nat) : Int) by omega]
      refine ih (k + 1) _ ι1 (by omega) g2 g3 C1 (by omega) (fun ι' C3 F3 => h ι' ?_ (F1.trans F3))
      rw [List.append_assoc] at C3
      exact C3
theorem cu_1 : ∀ (k : Nat) {s : Nat}, s < k → 0 < w s → 1 ≤ cu w k
  | 0, s, h, _ => by omega
  | k + 1, s, h, hw => by
    have := cu_rg w k
    show 1 ≤ cu w k + (if 0 < w k then 1 else 0)
    by_cases z : s = k
    · rw [z] at hw; rw [if_pos hw]; omega
    · have := cu_1 k (show s < k by omega) hw
      split <;> omega
theorem cu_0 : ∀ (k : Nat), (∀ s : Nat, s < k → w s ≤ 0) → cu w k = 0
  | 0, _ => rfl
  | k + 1, h => by
    show cu w k + (if 0 < w k then 1 else 0) = 0
    rw [cu_0 k (fun s hs => h s (by omega)), if_neg (by have := h k (by omega); omega)]; rfl
theorem eb_0 : ∀ (k : Nat), eb L k ≤ 0 → ∀ s : Nat, s < k → L s ≤ 0
  | 0, _, s, h => by omega
  | k + 1, h0, s, h => by
    have e1 : eb L (k + 1) = if 0 < L k then (k : Int) + 1 else eb L k := rfl
    rw [e1] at h0
    by_cases z : 0 < L k
    · rw [if_pos z] at h0; omega
    · rw [if_neg z] at h0
      by_cases y : s = k
      · rw [y]; omega
      · exact eb_0 k h0 s (by omega)
abbrev gTl (st a : Int) (t : Nat) (_ j : Int) : Prop := t = 67 ∨ t = 13 ∧ (j = 6 ∨ j = 43 ∨ j = 50) ∨ 90 ≤ t ∧ t ≤ 95 ∨ (t = 71 ∨ t = 72) ∧ (st ≤ j ∧ j < st + a ∨ 17910 ≤ j) ∨ t = 73 ∧ (j = st ∨ j = 17910)
theorem m_tellW {B : List Int} (ha : 2 ≤ a ∧ a ≤ 704) (hst : 0 ≤ st ∧ st + a ≤ 17910) (hWd : 1 ≤ Wd ∧ Wd ≤ 12) (hW1 : bm_p2 (Wd - 1) ≤ a - 1) (hW2 : a - 1 < bm_p2 Wd) (hT : Tld Wd a w L B) (hB : sm w 0 a ≤ 2000) (hw0 : ∀ s, 0 ≤ s → s < a → 0 ≤ w s ∧ w s ≤ 2000) (h93 : ∀ k, 0 ≤ k → k < a → ι 93 0 k = w k) (hC : MB ι l) (hr : (l.length : Int) + (74 + 8 * a) ≤ 32768) (h : ∀ ι' : bm_S, MB ι' (l ++ B) → MS ι' st a L → Fr (gTl st a) ι ι' → K ι') : bC sc 244 [br 13 0, bi st, bi a] ι (bk0 K H) := by
  obtain ⟨n, lone, hCL, hT⟩ := hT
  have hc := cu_rg w a.toNat
  have hn : n = cu w a.toNat := hCL.1
  have lr := lastp_rg w a.toNat
  have hl := hCL.2.1
  have hSB : SB w a (cu w a.toNat) 2000 := SB_of (by omega) hc.1 (fun s x y => (hw0 s x y).1) hB
  have hLr : ∀ s, 0 ≤ s → s < a → 0 ≤ L s ∧ L s ≤ 15 := fun s x y => by have := CL_rg (by omega) hCL s x y; omega
  refine e_M_writeCode_0 (m_find (by omega) (by omega) (by omega) hCL (fun r hr => by have := hSB r hr; omega) (fun s x y => by have := hw0 s x y; omega) h93 (fun ι1 M1 F1 => ?_))
  refine m_layI (L := L) (by omega) (by omega) M1.1 (fun ι2 M2 F2 => ?_)
  have C2 : MB ι2 l := (hC.fr F1 (fun j => by omega)).fr F2 (fun j => by omega)
  have F12 : Fr (gTl st a) ι ι2 := (F1.wide fun t i j y => by omega).trans (F2.wide fun t i j y => by omega)
  have e73 : ι2 73 0 st = if n < 2 then lone else -1 := by rw [F2 73 0 st (by omega)]; exact M1.2
  have S2 : MS ι2 st a L := by
    by_cases z : n < 2
    · rw [if_pos z] at e73
      refine Or.inr ⟨by omega, ?_⟩
      rcases hCL.2.2 with y | y
      · exact y.2
      · omega
    · rw [if_neg z] at e73
      exact Or.inl ⟨by omega, fun s x y => ⟨(M2 s x y).1, fun q => (M2 s x y).2 q (hLr s x y).2⟩⟩
  rcases hT with ⟨h4, rfl⟩ | ⟨h4, nm, lm, LM, hCM, rfl⟩
  · have fl := few_len ha hWd h4 hCL
    refine bif_f (by omega) (m_few ha (by omega) hWd hW1 hW2 (by omega) C2 (fun s x y => (M2 s x y).1) (fun y => by rw [e73, if_pos y]) (by omega) (fun ι3 C3 F3 => h ι3 C3 (S2.fr F3 ⟨by omega, fun j _ _ => by omega⟩) (F12.trans (F3.wide fun t i j y => by omega))))
  · have hM5 := CL5 hCM
    refine bif_t h4 (m_pu (by omega) (by omega) C2 (fun ι3 C3 F3 => ?_))
    have L3 : ∀ s, 0 ≤ s → s < a → ι3 71 0 (st + s) = L s := fun s x y => by rw [F3 71 0 _ (by omega)]; exact (M2 s x y).1
    refine m_list (by omega) (by omega) hLr L3 (fun ι4 M4 F4 => ?_)
    have er := eb_rg L a.toNat
    have hpos : 0 < eb L a.toNat := by
      by_cases z : 0 < eb L a.toNat
      · exact z
      · have := cu_0 (w := w) a.toNat (fun s hs => by
          have y := eb_0 (L := L) a.toNat (by omega) s hs
          rcases hCL.2.2 with x | ⟨x2, t, xH⟩
          · omega
          · have := HL_rg x2 t w xH s (by omega) (by omega); omega)
        omega
    obtain ⟨e, he⟩ : ∃ e, e = eb L a.toNat := ⟨_, rfl⟩
    rw [← he] at M4 er hCM hpos h
    have hmm := mM_le (L := L) er.1
    have hm1 : 1 ≤ mM L e := by
      by_cases z : mM L e = 0
      · have := (mM_ok (L := L) er.1).2
        rw [z] at this
        have y : e ≤ 0 := this
        omega
      · omega
    have hkk : ∀ k : Nat, k < mM L e → 0 ≤ mkk L e k ∧ mkk L e k < 18 ∧ (mkk L e k = 17 → 3 ≤ rnn L e k ∧ rnn L e k ≤ 10) := fun k hk => by have := mkk_rg (fun s x y => hLr s x (by omega)) er.1 hk; exact ⟨this.1, this.2.1, this.2.2.1⟩
    refine m_zero43 18 0 ι4 (by omega) (fun s x y => by omega) (fun ι5 Z5 F5 => ?_)
    have M5 : MkM ι5 L e (mM L e) := ⟨by rw [F5 13 0 50 (by omega)]; exact M4.1, fun i hi => by rw [F5 94 0 i (by omega), F5 95 0 i (by omega)]; exact M4.2 i hi⟩
    refine m_cnt67 (by omega) (fun k hk => ⟨(hkk k hk).1, (hkk k hk).2.1⟩) (mM L e) 0 ι5 (by omega) M5 (fun s x y => by rw [Z5 s x y]; rfl) (fun ι6 W6 F6 => ?_)
    have M6 : MkM ι6 L e (mM L e) := ⟨by rw [F6 13 0 50 (by omega)]; exact M5.1, fun i hi => by rw [F6 94 0 i (by omega), F6 95 0 i (by omega)]; exact M5.2 i hi⟩
    have cwr : ∀ s, 0 ≤ cw (mkk L e) (mM L e) s ∧ cw (mkk L e) (mM L e) s ≤ 704 := fun s => by have := cw_rg (f := mkk L e) s (mM L e); omega
    have hcm := cu_rg (cw (mkk L e) (mM L e)) (18 : Int).toNat
    refine e_M_writeCode_67 (bif_t (by rw [M6.1]; omega) (m_find (by omega) (by omega) (by omega) hCM (SB_of (by omega) hcm.1 (fun s x y => (cwr s).1) (by have := sm_cw_le (f := mkk L e) (a := 18) (by omega) (mM L e); omega)) (fun s x y => by have := cwr s; omega) W6 (fun ι7 M7 F7 => ?_)))
    have hnm : 1 ≤ nm := by
      rw [hCM.1]
      have k0 := hkk 0 (by omega)
      have := cw_pos (f := mkk L e) (i := 0) (mM L e) (by omega)
      exact cu_1 (18 : Int).toNat (s := (mkk L e 0).toNat) (by omega) (by rw [show (((mkk L e 0).toNat : Nat) : Int) = mkk L e 0 by omega]; exact this)
    have lrm := lastp_rg (cw (mkk L e) (mM L e)) (18 : Int).toNat
    have hlm := hCM.2.1
    have F37 : Fr (gTl st a) ι2 ι7 := ((((F3.wide fun t i j y => by omega).trans (F4.wide fun t i j y => by omega)).trans (F5.wide fun t i j y => by omega)).trans (F6.wide fun t i j y => by omega)).trans (F7.wide fun t i j y => by omega)
    have C7 : MB ι7 (l ++ bts 0 2 0) := (((C3.fr F4 (fun j => by omega)).fr F5 (fun j => by omega)).fr F6 (fun j => by omega)).fr F7 (fun j => by omega)
    have S7 : MS ι7 st a L := ((((S2.fr F3 ⟨by omega, fun j _ _ => by omega⟩).fr F4 ⟨by omega, fun j _ _ => by omega⟩).fr F5 ⟨by omega, fun j _ _ => by omega⟩).fr F6 ⟨by omega, fun j _ _ => by omega⟩).fr F7 ⟨by omega, fun j _ _ => by omega⟩
    have M7k : MkM ι7 L e (mM L e) := ⟨by rw [F7 13 0 50 (by omega)]; exact M6.1, fun i hi => by rw [F7 94 0 i (by omega), F7 95 0 i (by omega)]; exact M6.2 i hi⟩
    have e7 := M7.2
    have tl := tmb_len (M_rg (nm := nm) (lm := lm) hM5) 18 0 0 (by omega) (by omega)
    -- the rest, from the codes of marks on
    have rest : ∀ (ι8 : bm_S) (v4 : bm_V), MB ι8 (l ++ bts 0 2 0) → MS ι8 st a L → MkM ι8 L e (mM L e) → MS ι8 17910 18 LM → (∀ s, 0 ≤ s → s < 18 → ι8 71 0 (17910 + s) = (fun s => if nm < 2 ∧ s = lm then 1 else LM s) s) → Fr (gTl st a) ι2 ι8 → bW sc 244 149 [br 13 0, bi st, bi a, bi n, v4, bi 0, bi 0, bu] [] ι8 (bk0 K H) := fun ι8 v4 C8 S8 M8 P8 L8 F8 => by
      refine m_tm149 (M := fun s => if nm < 2 ∧ s = lm then 1 else LM s) (M_rg hM5) 18 0 0 _ ι8 _ (by omega) (by omega) (by omega) (by omega) C8 (by rw [app_len, bts_len]; omega) L8 (fun ι9 v5 v7 C9 F9 => ?_)
      refine m_put213 (by omega) hkk hM5 (mM L e) 0 _ ι9 (by omega) ⟨by rw [F9 13 0 50 (by omega)]; exact M8.1, fun i hi => by rw [F9 94 0 i (by omega), F9 95 0 i (by omega)]; exact M8.2 i hi⟩ (P8.fr F9 ⟨by omega, fun j _ _ => by omega⟩) C9 (by rw [app_len, app_len, bts_len]; omega) (fun ι' C10 F10 => h ι' ?_ ((S8.fr F9 ⟨by omega, fun j _ _ => by omega⟩).fr F10 ⟨by omega, fun j _ _ => by omega⟩) (((F12.trans F8).trans (F9.wide fun t i j y => by omega)).trans (F10.wide fun t i j y => by omega)))
      rw [List.append_assoc, List.append_assoc] at C10; exact C10
    refine bif_i (fun z => ⟨by omega, ?_⟩) (fun z => ?_)
    · rw [e7, if_pos (by omega)]
      refine ⟨by omega, by omega, ?_⟩
      have h0 : ∀ s, 0 ≤ s → s < 18 → LM s = 0 := by
        rcases hCM.2.2 with y | y
        · exact y.2
        · omega
      have F8 : Fr (fun t _ j => t = 71 ∧ 17910 ≤ j) ι7 (up ι7 71 0 (17910 + lm) 1) := (Fr.refl _ _).u ⟨rfl, by omega⟩
      refine m_layI (L := fun s => if nm < 2 ∧ s = lm then 1 else LM s) (by omega) (by omega) (fun s x y => ?_) (fun ι9 M9 F9 => rest ι9 _ ((C7.fr F8 (fun j => by omega)).fr F9 (fun j => by omega)) ((S7.fr F8 ⟨by omega, fun j _ _ => by omega⟩).fr F9 ⟨by omega, fun j _ _ => by omega⟩) ⟨by rw [F9 13 0 50 (by omega), F8 13 0 50 (by omega)]; exact M7k.1, fun i hi => by rw [F9 94 0 i (by omega), F9 95 0 i (by omega), F8 94 0 i (by omega), F8 95 0 i (by omega)]; exact M7k.2 i hi⟩ (Or.inr ⟨?_, h0⟩) (fun s x y => (M9 s x y).1) ((F37.trans (F8.wide fun t i j y => by omega)).trans (F9.wide fun t i j y => by omega)))
      · show _ = if nm < 2 ∧ s = lm then 1 else LM s
        rw [up_at]
        by_cases q : s = lm
        · rw [if_pos (by omega), if_pos ⟨by omega, q⟩]
        · rw [if_neg (by omega), if_neg (fun w => q w.2)]; exact M7.1 s x y
      · rw [F9 73 0 _ (by omega), F8 73 0 _ (by omega), e7, if_pos (by omega)]; omega
    · have nn : ¬ nm < 2 := by omega
      rw [if_neg nn] at e7
      have eM : ∀ s, LM s = (fun s => if nm < 2 ∧ s = lm then 1 else LM s) s := fun s => by show LM s = if nm < 2 ∧ s = lm then 1 else LM s; rw [if_neg (fun w => nn w.1)]
      refine m_layI (L := LM) (by omega) (by omega) M7.1 (fun ι9 M9 F9 => rest ι9 _ (C7.fr F9 (fun j => by omega)) (S7.fr F9 ⟨by omega, fun j _ _ => by omega⟩) ⟨by rw [F9 13 0 50 (by omega)]; exact M7k.1, fun i hi => by rw [F9 94 0 i (by omega), F9 95 0 i (by omega)]; exact M7k.2 i hi⟩ (Or.inl ⟨by rw [F9 73 0 _ (by omega), e7]; omega, fun s x y => ⟨(M9 s x y).1, fun q => (M9 s x y).2 q (by have := hM5 s x y; omega)⟩⟩) (fun s x y => by rw [← eM]; exact (M9 s x y).1) (F37.trans (F9.wide fun t i j y => by omega)))
end MTell
