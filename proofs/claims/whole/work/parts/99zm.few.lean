/-! pack: bits that stand behind each other; codes told shortly -/
section Few2
variable {sc : bm_Sc} {H : Nat × Int → bm_S → Prop} {K : bm_S → Prop} {ι : bm_S} {l : List Int}
def CB (ι : bm_S) (l : List Int) : Prop := WCo ι (ap l (fun _ => 0) 0) l.length
def MB (ι : bm_S) (l : List Int) : Prop := WMo ι (ap l (fun _ => 0) 0) l.length
theorem app_len (l m : List Int) : ((l ++ m).length : Int) = (l.length : Int) + m.length := by rw [List.length_append]; omega
theorem CB.fr {ι' : bm_S} {P : Nat → Int → Int → Prop} (h : CB ι l) (hF : Fr P ι ι') (hP : ∀ j, ¬ P 2 1 j ∧ ¬ P 20 1 j) : CB ι' l := by
  obtain ⟨h1, h2, h3⟩ := h
  exact ⟨by rw [hF 2 1 1 (hP 1).1]; exact h1, by rw [hF 2 1 2 (hP 2).1]; exact h2, fun k x y => by rw [hF 20 1 k (hP k).2]; exact h3 k x y⟩
theorem MB.fr {ι' : bm_S} {P : Nat → Int → Int → Prop} (h : MB ι l) (hF : Fr P ι ι') (hP : ∀ j, ¬ P 13 0 6 ∧ ¬ P 13 0 43 ∧ ¬ P 67 0 j) : MB ι' l := by
  obtain ⟨h1, h2, h3⟩ := h
  exact ⟨by rw [hF 13 0 6 (hP 0).1]; exact h1, by rw [hF 13 0 43 (hP 0).2.1]; exact h2, fun k x y => by rw [hF 67 0 k (hP k).2.2]; exact h3 k x y⟩
theorem s_pu {v n : Int} (hv : 0 ≤ v ∧ v < 2147483648) (hn : 0 ≤ n ∧ n ≤ 32) (hb : (l.length : Int) + n ≤ 32768) (hW : CB ι l) (h : ∀ ι' : bm_S, CB ι' (l ++ bts v n.toNat 0) → Fr fW ι ι' → K ι') : bC sc 19 [br 2 1, bi v, bi n] ι (bk0 K H) := by
  refine s_wr hv hn ⟨by omega, hb⟩ hW (fun ι' z F => h ι' ?_ F)
  unfold CB
  rw [ap_app, app_len, bts_len, show (0 : Int) + (l.length : Int) = l.length by omega, show ((n.toNat : Nat) : Int) = n by omega]
  exact z
theorem s_pu0 {v : Int} (hb : (l.length : Int) ≤ 32768) (hW : CB ι l) (h : ∀ ι' : bm_S, CB ι' l → Fr fW ι ι' → K ι') : bC sc 19 [br 2 1, bi v, bi 0] ι (bk0 K H) := by
  refine s_addBits (f := ap l (fun _ => 0) 0) (b := l.length) (Or.inr rfl) (by omega) (by rw [L20_1]; omega) hW (fun ι' hB hF => h ι' ?_ hF.fr)
  rw [show (l.length : Int) + 0 = l.length by omega] at hB
  exact hB
theorem m_pu {v n : Int} (hn : 0 ≤ n ∧ n ≤ 32) (hb : (l.length : Int) + n ≤ 32768) (hW : MB ι l) (h : ∀ ι' : bm_S, MB ι' (l ++ bts v n.toNat 0) → Fr gW ι ι' → K ι') : bC sc 234 [br 13 0, bi v, bi n] ι (bk0 K H) := by
  refine m_wr hn ⟨by omega, hb⟩ hW (fun j x y => ?_) (fun ι' z F => h ι' ?_ F)
  · exact ap_rg l (fun _ => 0) 0 (by omega) (fun k x y => by omega) j x (by rw [show (0 : Int) + (l.length : Int) = l.length by omega]; exact y)
  · unfold MB
    rw [ap_app, app_len, bts_len, show (0 : Int) + (l.length : Int) = l.length by omega, show ((n.toNat : Nat) : Int) = n by omega]
    exact z
/-! told shortly -/
def fsl (L : Int → Int) (Wd d : Int) : Nat → Int → List Int
  | 0, _ => []
  | m + 1, s => (if L s = d then bts s Wd.toNat 0 else []) ++ fsl L Wd d m (s + 1)
def lgs (L : Int → Int) (d : Int) : Nat → Int → Int → Int
  | 0, _, g => g
  | m + 1, s, g => lgs L d m (s + 1) (if L s = d then d else g)
def lg3 (L : Int → Int) (a : Int) : Int := lgs L 3 a.toNat 0 (lgs L 2 a.toNat 0 (lgs L 1 a.toNat 0 0))
def f3l (L : Int → Int) (Wd a : Int) : List Int := fsl L Wd 1 a.toNat 0 ++ (fsl L Wd 2 a.toNat 0 ++ fsl L Wd 3 a.toNat 0)
def fewB (L : Int → Int) (Wd a n lone : Int) : List Int := bts 1 2 0 ++ (bts (max n 1 - 1) 2 0 ++ (if n < 2 then bts lone Wd.toNat 0 else f3l L Wd a ++ (if n = 4 then bts (if lg3 L a = 3 then 1 else 0) 1 0 else [])))
variable {L : Int → Int} {a n0 Wd n lone st : Int}
theorem s_few62 {Q : bm_O → bm_S → Prop} {d : Int} (hd : 0 ≤ d ∧ d ≤ 3) (hL : CWL n0 a) (ha : a ≤ 704) (hWd : 0 ≤ Wd ∧ Wd ≤ 12) : ∀ (m : Nat) (s g : Int) (l : List Int) (ι : bm_S), s + m = a → 0 ≤ s → CB ι l → (l.length : Int) + (fsl L Wd d m s).length ≤ 32768 → (∀ s, 0 ≤ s → s < a → ι 27 n0 s = L s) →
    (∀ (ι' : bm_S) (v5 : bm_V), CB ι' (l ++ fsl L Wd d m s) → Fr fW ι ι' → bW sc 47 53 [br 5 n0, br 2 1, bi Wd, bi (lgs L d m s g), bi (d + 1), v5] [] ι' Q) → bW sc 47 62 [br 5 n0, br 2 1, bi Wd, bi g, bi d, bi s] [] ι Q
  | 0, s, g, l, ι, hs, s0, hC, hr, h27, h => e_CW_tellShort_62 (bif_t (by rw [hL.2.1]; omega) ⟨by omega, h ι _ (by show CB ι (l ++ []); rw [List.append_nil]; exact hC) (Fr.refl _ _)⟩)
  | m + 1, s, g, l, ι, hs, s0, hC, hr, h27, h => by
    have e1 : fsl L Wd d (m + 1) s = (if L s = d then bts s Wd.toNat 0 else []) ++ fsl L Wd d m (s + 1) := rfl
    have e2 : lgs L d (m + 1) s g = lgs L d m (s + 1) (if L s = d then d else g) := rfl
    rw [e1] at h hr
    rw [e2] at h
    refine e_CW_tellShort_62 ?_
    rw [hL.2.1, h27 s s0 (by omega)]
    refine bif_f (by omega) ⟨by omega, bif_i (fun z => ?_) (fun z => ⟨by omega, ?_⟩)⟩
    · rw [if_pos z, app_len, bts_len] at hr
      rw [if_pos z, if_pos z] at h
      refine s_pu (by omega) (by omega) (by omega) hC (fun ι1 C1 F1 => ⟨by omega, ?_⟩)
      refine s_few62 hd hL ha hWd m (s + 1) d _ ι1 (by omega) (by omega) C1 (by rw [app_len, bts_len]; omega) (fun s x y => by rw [F1 27 n0 s (by omega)]; exact h27 s x y) (fun ι' v5 C2 F2 => h ι' v5 ?_ (F1.trans F2))
      rw [← List.append_assoc]; exact C2
    · rw [if_neg z, List.nil_append] at hr
      rw [if_neg z, if_neg z, List.nil_append] at h
      exact s_few62 hd hL ha hWd m (s + 1) g l ι (by omega) (by omega) hC hr h27 h
theorem s_few (hL : CWL n0 a) (ha : 2 ≤ a ∧ a ≤ 704) (hWd : 1 ≤ Wd ∧ Wd ≤ 12) (hW1 : bm_p2 (Wd - 1) ≤ a - 1) (hW2 : a - 1 < bm_p2 Wd) (hn : 0 ≤ n ∧ n ≤ 4) (hl : 0 ≤ lone ∧ lone < a) (hC : CB ι l) (hS : CWS ι n0 a n lone L) (hr : (l.length : Int) + (fewB L Wd a n lone).length ≤ 32768) (h : ∀ ι' : bm_S, CB ι' (l ++ fewB L Wd a n lone) → Fr fW ι ι' → K ι') : bC sc 47 [br 5 n0, br 2 1] ι (bk0 K H) := by
  obtain ⟨h9, h29, h27, -⟩ := hS
  unfold fewB at hr h
  rw [app_len, app_len, bts_len, bts_len] at hr
  refine e_CW_tellShort_0 ?_
  rw [hL.1, hL.2.2.2.1]
  refine ⟨by omega, s_bitsIn (nb := Wd) (by omega) hWd hW1 hW2 (s_pu (by omega) (by omega) (by omega) hC (fun ι1 C1 F1 => ?_))⟩
  rw [F1 5 n0 9 (by omega), h9]
  refine ⟨by omega, s_pu (by omega) (by omega) (by rw [app_len, bts_len]; omega) C1 (fun ι2 C2 F2 => ?_)⟩
  rw [F2 5 n0 9 (by omega), F1 5 n0 9 (by omega), h9]
  refine bif_i (fun z => ⟨by omega, ?_⟩) (fun z => ?_)
  · rw [if_pos (by omega)] at h hr
    rw [bts_len] at hr
    rw [F2 29 n0 0 (by omega), F1 29 n0 0 (by omega), h29 (by omega)]
    refine s_pu (by omega) (by omega) (by rw [app_len, app_len, bts_len, bts_len]; omega) C2 (fun ι3 C3 F3 => h ι3 ?_ ((F1.trans F2).trans F3))
    rw [List.append_assoc, List.append_assoc] at C3; exact C3
  · rw [if_neg (by omega)] at h hr
    rw [app_len] at hr
    unfold f3l at h hr
    rw [app_len, app_len] at hr
    have b27 : ∀ s, 0 ≤ s → s < a → ι2 27 n0 s = L s := fun s x y => by rw [F2 27 n0 s (by omega), F1 27 n0 s (by omega)]; exact h27 s x y
    refine e_CW_tellShort_53 (bif_f (by omega) (s_few62 (d := 1) (by omega) hL ha.2 (by omega) a.toNat 0 0 _ ι2 (by omega) (by omega) C2 (by rw [app_len, app_len, bts_len, bts_len]; omega) b27 (fun ι3 v5 C3 F3 => ?_)))
    refine e_CW_tellShort_53 (bif_f (by omega) (s_few62 (d := 1 + 1) (by omega) hL ha.2 (by omega) a.toNat 0 _ _ ι3 (by omega) (by omega) C3 (by rw [app_len, app_len, app_len, bts_len, bts_len]; show _ + ((fsl L Wd 2 a.toNat 0).length : Int) ≤ _; omega) (fun s x y => by rw [F3 27 n0 s (by omega)]; exact b27 s x y) (fun ι4 v5 C4 F4 => ?_)))
    refine e_CW_tellShort_53 (bif_f (by omega) (s_few62 (d := 1 + 1 + 1) (by omega) hL ha.2 (by omega) a.toNat 0 _ _ ι4 (by omega) (by omega) C4 (by rw [app_len, app_len, app_len, app_len, bts_len, bts_len]; show _ + ((fsl L Wd 2 a.toNat 0).length : Int) + ((fsl L Wd 3 a.toNat 0).length : Int) ≤ _; omega) (fun s x y => by rw [F4 27 n0 s (by omega), F3 27 n0 s (by omega)]; exact b27 s x y) (fun ι5 v5 C5 F5 => ?_)))
    have F0 := (((F1.trans F2).trans F3).trans F4).trans F5
    have ex : ∀ m : List Int, l ++ (bts 1 2 0 ++ (bts (max n 1 - 1) 2 0 ++ ((fsl L Wd 1 a.toNat 0 ++ (fsl L Wd 2 a.toNat 0 ++ fsl L Wd 3 a.toNat 0)) ++ m))) = l ++ bts 1 (2 : Int).toNat 0 ++ bts (max n 1 - 1) (2 : Int).toNat 0 ++ fsl L Wd 1 a.toNat 0 ++ fsl L Wd (1 + 1) a.toNat 0 ++ fsl L Wd (1 + 1 + 1) a.toNat 0 ++ m := fun m => by simp only [List.append_assoc]; rfl
    rw [ex] at h
    have el : lgs L (1 + 1 + 1) a.toNat 0 (lgs L (1 + 1) a.toNat 0 (lgs L 1 a.toNat 0 0)) = lg3 L a := rfl
    rw [el]
    have len5 : ((l ++ bts 1 (2 : Int).toNat 0 ++ bts (max n 1 - 1) (2 : Int).toNat 0 ++ fsl L Wd 1 a.toNat 0 ++ fsl L Wd (1 + 1) a.toNat 0 ++ fsl L Wd (1 + 1 + 1) a.toNat 0).length : Int) = l.length + 2 + 2 + (fsl L Wd 1 a.toNat 0).length + (fsl L Wd 2 a.toNat 0).length + (fsl L Wd 3 a.toNat 0).length := by
      rw [app_len, app_len, app_len, app_len, app_len, bts_len, bts_len]; rfl
    refine e_CW_tellShort_53 (bif_t (by omega) ?_)
    rw [F5 5 n0 9 (by omega), F4 5 n0 9 (by omega), F3 5 n0 9 (by omega), F2 5 n0 9 (by omega), F1 5 n0 9 (by omega), h9]
    refine bif_i (fun z4 => ?_) (fun z4 => ?_)
    · rw [if_pos (by omega)] at h hr
      rw [bts_len] at hr
      refine bif_i (fun y => s_pu (by omega) (by omega) (by rw [len5]; omega) C5 (fun ι6 C6 F6 => h ι6 ?_ (F0.trans F6))) (fun y => s_pu (by omega) (by omega) (by rw [len5]; omega) C5 (fun ι6 C6 F6 => h ι6 ?_ (F0.trans F6)))
      · rw [if_pos y]; exact C6
      · rw [if_neg y]; exact C6
    · rw [if_neg (by omega), List.append_nil] at h
      exact h ι5 C5 F0
theorem m_few67 {Q : bm_O → bm_S → Prop} {d x3 x4 : Int} (hd : 0 ≤ d ∧ d ≤ 3) (ha : a ≤ 704) (hst : 0 ≤ st ∧ st + a ≤ 18000) (hWd : 0 ≤ Wd ∧ Wd ≤ 12) (hW1 : Wd = 0 ∨ bm_p2 (Wd - 1) ≤ a - 1) (hW2 : a - 1 < bm_p2 Wd) : ∀ (m : Nat) (s g : Int) (l : List Int) (ι : bm_S), s + m = a → 0 ≤ s → MB ι l → (l.length : Int) + (fsl L Wd d m s).length ≤ 32768 → (∀ s, 0 ≤ s → s < a → ι 71 0 (st + s) = L s) →
    (∀ (ι' : bm_S) (v7 : bm_V), MB ι' (l ++ fsl L Wd d m s) → Fr gW ι ι' → bW sc 240 53 [br 13 0, bi st, bi a, bi x3, bi x4, bi (lgs L d m s g), bi (d + 1), v7] [] ι' Q) → bW sc 240 67 [br 13 0, bi st, bi a, bi x3, bi x4, bi g, bi d, bi s] [] ι Q
  | 0, s, g, l, ι, hs, s0, hC, hr, h27, h => e_M_writeFew_67 (bif_t (by omega) ⟨by omega, h ι _ (by show MB ι (l ++ []); rw [List.append_nil]; exact hC) (Fr.refl _ _)⟩)
  | m + 1, s, g, l, ι, hs, s0, hC, hr, h27, h => by
    have e1 : fsl L Wd d (m + 1) s = (if L s = d then bts s Wd.toNat 0 else []) ++ fsl L Wd d m (s + 1) := rfl
    have e2 : lgs L d (m + 1) s g = lgs L d m (s + 1) (if L s = d then d else g) := rfl
    rw [e1] at h hr
    rw [e2] at h
    refine e_M_writeFew_67 ?_
    rw [h27 s s0 (by omega)]
    refine bif_f (by omega) ⟨by omega, by omega, bif_i (fun z => ⟨by omega, ?_⟩) (fun z => ⟨by omega, ?_⟩)⟩
    · rw [if_pos z, app_len, bts_len] at hr
      rw [if_pos z, if_pos z] at h
      refine m_widthOf (w := Wd) (by omega) (by omega) hW2 hW1 (m_pu (by omega) (by omega) hC (fun ι1 C1 F1 => ⟨by omega, ?_⟩))
      refine m_few67 hd ha hst hWd hW1 hW2 m (s + 1) d _ ι1 (by omega) (by omega) C1 (by rw [app_len, bts_len]; omega) (fun s x y => by rw [F1 71 0 _ (by omega)]; exact h27 s x y) (fun ι' v5 C2 F2 => h ι' v5 ?_ (F1.trans F2))
      rw [← List.append_assoc]; exact C2
    · rw [if_neg z, List.nil_append] at hr
      rw [if_neg z, if_neg z, List.nil_append] at h
      exact m_few67 hd ha hst hWd hW1 hW2 m (s + 1) g l ι (by omega) (by omega) hC hr h27 h
theorem m_few (ha : 2 ≤ a ∧ a ≤ 704) (hst : 0 ≤ st ∧ st + a ≤ 18000) (hWd : 1 ≤ Wd ∧ Wd ≤ 12) (hW1 : bm_p2 (Wd - 1) ≤ a - 1) (hW2 : a - 1 < bm_p2 Wd) (hn : 0 ≤ n ∧ n ≤ 4) (hC : MB ι l) (h71 : ∀ s, 0 ≤ s → s < a → ι 71 0 (st + s) = L s) (h73 : n < 2 → ι 73 0 st = lone) (hr : (l.length : Int) + (fewB L Wd a n lone).length ≤ 32768) (h : ∀ ι' : bm_S, MB ι' (l ++ fewB L Wd a n lone) → Fr gW ι ι' → K ι') : bC sc 240 [br 13 0, bi st, bi a, bi n] ι (bk0 K H) := by
  unfold fewB at hr h
  rw [app_len, app_len, bts_len, bts_len] at hr
  -- behind the number of signs
  have go : ∀ (ι2 : bm_S), MB ι2 (l ++ bts 1 (2 : Int).toNat 0 ++ bts (max n 1 - 1) (2 : Int).toNat 0) → Fr gW ι ι2 → if (2 : Int) ≤ n then bW sc 240 53 [br 13 0, bi st, bi a, bi n, bi (max n 1), bi 0, bi 1, bu] [] ι2 (bk0 K H) else (0 ≤ st ∧ st < (18000 : Int)) ∧ (bm_rg (a - 1)) ∧ bC sc 177 [bi (a - 1)] ι2 (bk1 (fun r3 ι3 => bC sc 234 [br 13 0, bi (ι2 73 0 st), bi r3] ι3 (bk0 (fun ι4 => bW sc 240 53 [br 13 0, bi st, bi a, bi n, bi (max n 1), bi 0, bi 1, bu] [] ι4 (bk0 K H)) H)) H) := fun ι2 C2 F2 => by
    refine bif_i (fun z => ?_) (fun z => ⟨by omega, by omega, ?_⟩)
    · rw [if_neg (by omega)] at h hr
      rw [app_len] at hr
      unfold f3l at h hr
      rw [app_len, app_len] at hr
      have b71 : ∀ s, 0 ≤ s → s < a → ι2 71 0 (st + s) = L s := fun s x y => by rw [F2 71 0 _ (by omega)]; exact h71 s x y
      refine e_M_writeFew_53 (bif_f (by omega) (bif_f (by omega) (m_few67 (d := 1) (by omega) ha.2 hst (by omega) (Or.inr hW1) hW2 a.toNat 0 0 _ ι2 (by omega) (by omega) C2 (by rw [app_len, app_len, bts_len, bts_len]; omega) b71 (fun ι3 v5 C3 F3 => ?_))))
      refine e_M_writeFew_53 (bif_f (by omega) (bif_f (by omega) (m_few67 (d := 1 + 1) (by omega) ha.2 hst (by omega) (Or.inr hW1) hW2 a.toNat 0 _ _ ι3 (by omega) (by omega) C3 (by rw [app_len, app_len, app_len, bts_len, bts_len]; show _ + ((fsl L Wd 2 a.toNat 0).length : Int) ≤ _; omega) (fun s x y => by rw [F3 71 0 _ (by omega)]; exact b71 s x y) (fun ι4 v5 C4 F4 => ?_))))
      refine e_M_writeFew_53 (bif_f (by omega) (bif_f (by omega) (m_few67 (d := 1 + 1 + 1) (by omega) ha.2 hst (by omega) (Or.inr hW1) hW2 a.toNat 0 _ _ ι4 (by omega) (by omega) C4 (by rw [app_len, app_len, app_len, app_len, bts_len, bts_len]; show _ + ((fsl L Wd 2 a.toNat 0).length : Int) + ((fsl L Wd 3 a.toNat 0).length : Int) ≤ _; omega) (fun s x y => by rw [F4 71 0 _ (by omega), F3 71 0 _ (by omega)]; exact b71 s x y) (fun ι5 v5 C5 F5 => ?_))))
      have F0 := ((F2.trans F3).trans F4).trans F5
      have ex : ∀ m : List Int, l ++ (bts 1 2 0 ++ (bts (max n 1 - 1) 2 0 ++ ((fsl L Wd 1 a.toNat 0 ++ (fsl L Wd 2 a.toNat 0 ++ fsl L Wd 3 a.toNat 0)) ++ m))) = l ++ bts 1 (2 : Int).toNat 0 ++ bts (max n 1 - 1) (2 : Int).toNat 0 ++ fsl L Wd 1 a.toNat 0 ++ fsl L Wd (1 + 1) a.toNat 0 ++ fsl L Wd (1 + 1 + 1) a.toNat 0 ++ m := fun m => by simp only [List.append_assoc]; rfl
      rw [ex] at h
      have el : lgs L (1 + 1 + 1) a.toNat 0 (lgs L (1 + 1) a.toNat 0 (lgs L 1 a.toNat 0 0)) = lg3 L a := rfl
      rw [el]
      have len5 : ((l ++ bts 1 (2 : Int).toNat 0 ++ bts (max n 1 - 1) (2 : Int).toNat 0 ++ fsl L Wd 1 a.toNat 0 ++ fsl L Wd (1 + 1) a.toNat 0 ++ fsl L Wd (1 + 1 + 1) a.toNat 0).length : Int) = l.length + 2 + 2 + (fsl L Wd 1 a.toNat 0).length + (fsl L Wd 2 a.toNat 0).length + (fsl L Wd 3 a.toNat 0).length := by
        rw [app_len, app_len, app_len, app_len, app_len, bts_len, bts_len]; rfl
      refine e_M_writeFew_53 (bif_t (by omega) ?_)
      refine bif_i (fun z4 => ?_) (fun z4 => ?_)
      · rw [if_pos (by omega)] at h hr
        rw [bts_len] at hr
        refine bif_i (fun y => m_pu (by omega) (by rw [len5]; omega) C5 (fun ι6 C6 F6 => h ι6 ?_ (F0.trans F6))) (fun y => m_pu (by omega) (by rw [len5]; omega) C5 (fun ι6 C6 F6 => h ι6 ?_ (F0.trans F6)))
        · rw [if_pos y]; exact C6
        · rw [if_neg y]; exact C6
      · rw [if_neg (by omega), List.append_nil] at h
        exact h ι5 C5 F0
    · rw [if_pos (by omega)] at h hr
      rw [bts_len] at hr
      rw [F2 73 0 st (by omega), h73 (by omega)]
      refine m_widthOf (w := Wd) (by omega) (by omega) hW2 (Or.inr hW1) (m_pu (by omega) (by rw [app_len, app_len, bts_len, bts_len]; omega) C2 (fun ι3 C3 F3 => ?_))
      refine e_M_writeFew_53 (bif_f (by omega) (bif_t (by omega) (bif_f (by omega) (h ι3 ?_ (F2.trans F3)))))
      rw [List.append_assoc, List.append_assoc] at C3; exact C3
  refine e_M_writeFew_0 (m_pu (by omega) (by omega) hC (fun ι1 C1 F1 => bif_i (fun z => ⟨by omega, ?_⟩) (fun z => ⟨by omega, ?_⟩)))
  · rw [show (1 : Int) - 1 = max n 1 - 1 by omega]
    rw [show max n 1 = 1 by omega] at go
    rw [show max n 1 = 1 by omega]
    exact m_pu (by omega) (by rw [app_len, bts_len]; omega) C1 (fun ι2 C2 F2 => go ι2 C2 (F1.trans F2))
  · rw [show n - 1 = max n 1 - 1 by omega]
    refine m_pu (by omega) (by rw [app_len, bts_len]; omega) C1 (fun ι2 C2 F2 => ?_)
    have := go ι2 C2 (F1.trans F2)
    rw [show max n 1 = n by omega] at this
    exact this
end Few2
