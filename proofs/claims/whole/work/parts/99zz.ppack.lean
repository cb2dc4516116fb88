/-! pack: the pair -/
section PPack
variable {sc : bm_Sc} {ι : bm_S}
abbrev pF (t : Nat) (i j : Int) : Prop := t = 2 ∨ t = 20 ∨ t = 5 ∨ t = 6 ∨ t = 9 ∨ 26 ≤ t ∧ t ≤ 42 ∨ 55 ≤ t ∧ t ≤ 63 ∨ t = 67 ∨ 70 ≤ t ∧ t ≤ 74 ∨ 90 ≤ t ∧ t ≤ 107 ∨ t = 13 ∧ (j = 0 ∨ j = 3 ∨ j = 4 ∨ j = 6 ∨ j = 10 ∨ j = 43 ∨ j = 50 ∨ j = 59 ∨ j = 63)
theorem Jo.farP {ι ι' : bm_S} (hF : Fr pF ι ι') (h : Jo ι) : Jo ι' := by
  obtain ⟨h0, rg, PA, pc, tl, cm, has, W, a1, a2, a3, a4, a5, a6, a7, a8, a9, a10⟩ := h
  refine ⟨?_, rg, PA, pc, tl, cm, has, W, fun i x y => ?_, fun i x y => ?_, a3.fr hF (fun j => by omega), a4.fr hF (fun j => by omega), ?_, ?_, a7, a8.fr a10 hF (fun i j => by omega), a9.fr hF (fun j => by omega), a10⟩
  · rw [hF 0 0 1 (by omega), hF 13 0 20 (by omega)]; exact h0
  · rw [hF 51 0 i (by omega)]; exact a1 i x y
  · rw [hF 77 0 (3 - i) (by omega)]; exact a2 i x y
  · rw [hF 8 0 3 (by omega)]; exact a5
  · rw [hF 13 0 19 (by omega)]; exact a6
theorem Jp.far {ι ι' : bm_S} (hF : Fr sf ι ι') (h : Jp ι) : Jp ι' := by
  unfold Jp
  rw [hF 9 0 4 (by unfold sf; omega), hF 13 0 63 (by unfold sf; omega)]
  refine ⟨h.1, h.2.1, fun i x y => ?_⟩
  rw [hF 55 0 i (by unfold sf; omega), hF 56 0 i (by unfold sf; omega), hF 57 0 i (by unfold sf; omega), hF 58 0 i (by unfold sf; omega), hF 104 0 _ (by unfold sf; omega), hF 104 0 _ (by unfold sf; omega), hF 104 0 _ (by unfold sf; omega), hF 104 0 _ (by unfold sf; omega)]
  exact h.2.2 i x y
theorem Jop_far (ι ι' : bm_S) (hF : Fr sf ι ι') (h : Jo ι ∧ Jp ι) : Jo ι' ∧ Jp ι' := ⟨h.1.far hF, h.2.far hF⟩
theorem p_pack {x1 : Int} (hJ : Jn (fun ι => Jo ι ∧ Jp ι) ι) : Pair sc 130 259 [bi x1] ι (Jn (fun ι => Jo ι ∧ Jp ι)) := by
  have hup := J_up Jop_far hJ
  have hJ' := hJ
  obtain ⟨hJt, hJm, hJw, hJo, hJp⟩ := hJ
  obtain ⟨t1, t2, t3, t4⟩ := hJt
  obtain ⟨m1, m2, m3⟩ := hJm
  refine e_X_pack_0 (bif_i (fun z => ?_) (fun z => bif_i (fun y => ?_) (fun y => bif_i (fun w => ?_) (fun w => ?_))))
  · exact e_M_pack_0 (bif_t (by rw [if_neg (by omega)]) ⟨rfl, hup⟩)
  · exact e_M_pack_0 (bif_t (by rw [if_neg (by omega)]) ⟨rfl, hup⟩)
  · obtain ⟨N, hN⟩ : ∃ N, N = ι 2 0 1 := ⟨_, rfl⟩
    obtain ⟨T, hT⟩ : ∃ T, T = ι 66 0 := ⟨_, rfl⟩
    obtain ⟨g, hg⟩ : ∃ g, g = ι 68 0 := ⟨_, rfl⟩
    obtain ⟨c, hc⟩ : ∃ c, c = ι 69 0 := ⟨_, rfl⟩
    obtain ⟨d, hd⟩ : ∃ d, d = dg (ι 68 0) (ι 69 0) := ⟨_, rfl⟩
    have hd' : d = dg (ι 64 0) (ι 65 0) := by rw [hd]; exact (dg_ext hJw).symm
    obtain ⟨f, hf⟩ : ∃ f, f = mk x1 (cf T N) (wdM T N g c) N := ⟨_, rfl⟩
    obtain ⟨wyf, hwy⟩ : ∃ wyf, wyf = wy x1 (cf T N) (wdM T N g c) N := ⟨_, rfl⟩
    have hG : GV g c := ⟨fun k x y => by rw [hg]; exact (hJw.1 k x y).2, fun n x y => by rw [hc]; exact (hJw.2 n x y).2⟩
    have hGC : GCo ι g c := ⟨fun k x y => by rw [hg]; exact (hJw.1 k x y).1, fun n x y => by rw [hc]; exact (hJw.2 n x y).1⟩
    have hN2 : 0 ≤ N ∧ N ≤ 2000 := by omega
    have hTC : TCo ι T N := ⟨hN.symm, fun k x y => by rw [hT]; exact (t3 k x (by omega)).1⟩
    have hTr : ∀ k, 0 ≤ k → k < N → -128 ≤ T k ∧ T k < 128 := fun k x y => by rw [hT]; exact (t3 k x (by omega)).2
    have hf4 : ∀ p, 0 ≤ p → p < N → wyf p ≠ 0 → 4 ≤ f p := fun p a b q => by
      have := wy_rg (lv := x1) (AB_of (T := T) (N := N) (g := g) (c := c)) hN2.2 ⟨a, b⟩
      rw [hwy] at q
      rw [hf]
      unfold mk
      rw [if_neg q]
      split <;> omega
    have hex : ∃ (nc : Nat) (A : Int → Int → Int) (rg' : Int → Int), nc ≤ 501 ∧ (0 < N → 1 ≤ x1 → LSt f wyf N A nc 0 0) ∧
        (0 < N → 1 ≤ x1 → ∀ (ι : bm_S) (K : bm_S → Prop) (H : Nat × Int → bm_S → Prop), CmC ι 0 (fun _ _ => 0) rg0 → ChC ι T N g c x1 → GCo ι g c → (∀ ι' : bm_S, CmC ι' nc A rg' → Fr fCm ι ι' → K ι') → bW sc 100 11 [br 9 0, bi N, bi 0, bi 0] [] ι (bk0 K H)) ∧
        (0 < N → 1 ≤ x1 → ∀ (ι : bm_S) (K : bm_S → Prop) (H : Nat × Int → bm_S → Prop) (v3 v4 : bm_V), CmM ι 0 (fun _ _ => 0) rg0 → ι 13 0 59 = N → (∀ q, 0 ≤ q → q < N → WQ ι T N g c x1 q) → GMo ι g c → (∀ ι' : bm_S, CmM ι' nc A rg' → Fr gCm ι ι' → K ι') → bW sc 253 40 [br 13 0, bi 0, bi 0, v3, v4] [] ι (bk0 K H)) := by
      by_cases q : 0 < N ∧ 1 ≤ x1
      · obtain ⟨n, A', rg', -, k2, k3, k4, k5⟩ := j_list (sc := sc) (T := T) (g := g) (c := c) (lv := x1) (f := f) (by omega) hN2 hG hf (N.toNat + 1) 0 0 0 (fun _ _ => 0) rg0 (by have e : rch f N (0 + 0) = 0 := rfl; omega) (fun j hj => by omega) (by show (0 : Int) = 0 + ((0 : Nat) : Int); omega) (by omega) (by have e : rch f N 0 = 0 := rfl; omega)
        have e0 : (0 : Int) + (n : Int) = n := by omega
        rw [e0] at k3 k4 k5
        rw [← hwy] at k2
        exact ⟨n, A', rg', by omega, fun _ _ => k2, fun _ _ ι K H a b c d => k4 ι K H a b c d, fun _ _ ι K H v3 v4 a b c d e => k5 ι K H v3 v4 a b c d e⟩
      · exact ⟨0, fun _ _ => 0, rg0, by omega, fun a b => absurd ⟨a, b⟩ q, fun a b => absurd ⟨a, b⟩ q, fun a b => absurd ⟨a, b⟩ q⟩
    obtain ⟨nc, A, rg', hnc, hL, hjc, hjm⟩ := hex
    -- the end of both
    have fin : ∀ (ι1 ι2 ι3 : bm_S) (B : List Int), FB ι1 B → (B.length : Int) ≤ 32768 → Fr fPk ι ι1 → FrB 0 ι1 ι2 → ι2 2 0 1 = 0 → ι2 2 0 2 = 0 → MB ι3 B → ι3 13 0 3 = 0 → ι3 13 0 4 = -1 → Fr gPk ι2 ι3 → Jp ι3 → ι2 2 1 1 = ι3 13 0 6 ∧ Jn (fun ι => Jo ι ∧ Jp ι) ι3 := fun ι1 ι2 ι3 B hB hl F1 F2 e1 e2 hM e3 e4 F3 hp => by
      have F2' := F2.fr
      have F03 : Fr pF ι ι3 := ((F1.wide fun t i j y => by omega).trans (F2'.wide fun t i j y => by omega)).trans (F3.wide fun t i j y => by omega)
      have s2 : ι2 2 1 1 = ((B.length : Int) + 7) / 8 := by rw [F2' 2 1 1 (by omega)]; exact hB.1
      have s3 : ι3 13 0 6 = ((B.length : Int) + 7) / 8 := hM.1
      have s31 : ι3 2 1 1 = ((B.length : Int) + 7) / 8 := by rw [F3 2 1 1 (by omega)]; exact s2
      refine ⟨by rw [s2, s3], ⟨?_, ?_, fun k x y => ?_, ?_⟩, ⟨?_, ?_, fun k x y => ?_⟩, hJw.to F03 (fun j => by omega), hJo.farP F03, hp⟩
      · rw [F3 2 0 1 (by omega), e1]; omega
      · rw [F3 2 0 1 (by omega), e1]; exact e3
      · rw [F3 2 0 1 (by omega), e1] at y; omega
      · rw [F3 2 0 1 (by omega), F3 2 0 2 (by omega), e1, e2, e4]; omega
      · rw [s31]; omega
      · rw [s31, s3]
      · rw [s31] at y
        have c1 : ι3 20 1 k = l0 B k := by rw [F3 20 1 k (by omega), F2' 20 1 k (by omega)]; exact hB.2.2 k x y
        have c2 : ι3 67 0 k = l0 B k := hM.2.2 k x y
        rw [c1, c2]
        exact ⟨rfl, l0_rg k x y⟩
    -- the other, behind comp
    have mrun : ∀ (ι1 ι2 : bm_S) (K : Int → bm_S → Prop) (H : Nat × Int → bm_S → Prop), Fr fPk ι ι1 → FrB 0 ι1 ι2 →
        (N = 0 → ∀ ι' : bm_S, MB ι' (pre d ++ bts 3 2 0) → ι' 13 0 63 = 0 → ι' 13 0 3 = 0 → ι' 13 0 4 = -1 → Fr gPk ι2 ι' → K (ι' 13 0 6) ι') →
        (0 < N → x1 = 0 → ∀ ι' : bm_S, MB ι' (rawL d N T ++ bts 3 2 0) → ι' 13 0 63 = 0 → ι' 13 0 3 = 0 → ι' 13 0 4 = -1 → Fr gPk ι2 ι' → K (ι' 13 0 6) ι') →
        (0 < N → 1 ≤ x1 → ∃ (ix : Nat) (B0 B1 B2 : List Int) (L0 L1 L2 : Int → Int), Cods f wyf T N A nc ix B0 B1 B2 L0 L1 L2 ∧ ∀ ι' : bm_S, MB ι' (codL d N T A nc B0 B1 B2 L0 L1 L2) → CmB ι' nc A → ι' 13 0 3 = 0 → ι' 13 0 4 = -1 → Fr gPk ι2 ι' → K (ι' 13 0 6) ι') →
        bC sc 259 [br 13 0, bi x1] ι2 (bk1 K H) := fun ι1 ι2 K H F1 F2 h0 hr hcod => by
      have F2' := F2.fr
      have F02 : Fr (fun t i j => t = 2 ∨ t = 20 ∨ fPk t i j) ι ι2 := (F1.wide fun t i j y => Or.inr (Or.inr y)).trans (F2'.wide fun t i j y => by rcases y.1 with e | e <;> omega)
      have e68 : ∀ j, ι2 68 0 j = ι 68 0 j := fun j => F02 68 0 j (by omega)
      have e69 : ∀ j, ι2 69 0 j = ι 69 0 j := fun j => F02 69 0 j (by omega)
      refine m_packAll (T := T) (N := N) (g := g) (c := c) (f := f) (wyf := wyf) (A := A) (d := d) (nc := nc) (by omega) hN2 (fun n x y => by rw [e69]; exact (hJw.2 n x y).2) ?_ ?_ (fun k x y => ?_) hG ⟨fun k x y => by rw [e68, hg], fun k x y => by rw [e69, hc]⟩ hf hwy hf4 hnc hL hjm h0 hr hcod
      · rw [hd, show ι2 68 0 = ι 68 0 from funext e68, show ι2 69 0 = ι 69 0 from funext e69]
      · rw [F02 13 0 3 (by omega), t2, hN]
      · rw [F02 66 0 k (by omega), hT]; exact ⟨rfl, (t3 k x (by omega)).2⟩
    -- the tape is wiped, then the other
    have tail : ∀ (ι1 : bm_S) (J : Int → bm_S → Prop) (H : Nat × Int → bm_S → Prop), Fr fPk ι ι1 → (∀ ι2 : bm_S, FrB 0 ι1 ι2 → ι2 2 0 1 = 0 → ι2 2 0 2 = 0 → J (ι2 2 1 1) ι2) → bC sc 16 [br 2 0, bi 0] ι1 (bk0 (fun ι2 => J (ι2 2 1 1) ι2) H) := fun ι1 J H F1 h => by
      have e1 : ι1 2 0 1 = N := by rw [F1 2 0 1 (by omega), hN]
      refine s_cut (s := N) (b := ι1 2 0 2) (f := ι1 20 0) (Or.inl rfl) ⟨e1, rfl, fun _ _ _ => rfl⟩ (by rw [L20_0]; omega) (fun ι2 b2 F2 => h ι2 F2 (by rw [b2.1]; omega) (by rw [b2.2.1]; omega))
    refine s_packAll (T := T) (N := N) (g := g) (c := c) (f := f) (wyf := wyf) (A := A) (d := d) (nc := nc) (by omega) hN2 (by rw [← m2] at m1 ⊢; exact m1) hJw hd' hTC hTr hG hGC hf hwy hf4 hnc hL hjc (fun e ι1 B1 k1 F1 => ?_) (fun e e' ι1 B1 k1 F1 => ?_) (fun e e' ι1 ix B0 Ba Bb L0 L1 L2 hCo B1 A1 F1 => ?_)
    · refine tail ι1 (fun r ι2 => bC sc 259 [br 13 0, bi x1] ι2 (bk1 (fun r2 ι3 => r = r2 ∧ Jn (fun ι => Jo ι ∧ Jp ι) ι3) (fun _ _ => False))) _ F1 (fun ι2 F2 e1 e2 => ?_)
      refine mrun ι1 ι2 _ _ F1 F2 (fun _ ι3 M3 q63 q3 q4 F3 => ?_) (fun q => by omega) (fun q => by omega)
      have k3 : ι3 9 0 4 = 0 := by rw [F3 9 0 4 (by omega), F2 9 0 4 (by omega)]; exact k1
      exact fin ι1 ι2 ι3 _ B1 (by rw [app_len, pre_len, bts_len]; omega) F1 F2 e1 e2 M3 q3 q4 F3 ⟨by rw [k3, q63], by rw [q63]; omega, fun i x y => by rw [q63] at y; omega⟩
    · refine tail ι1 (fun r ι2 => bC sc 259 [br 13 0, bi x1] ι2 (bk1 (fun r2 ι3 => r = r2 ∧ Jn (fun ι => Jo ι ∧ Jp ι) ι3) (fun _ _ => False))) _ F1 (fun ι2 F2 e1 e2 => ?_)
      refine mrun ι1 ι2 _ _ F1 F2 (fun q => by omega) (fun _ _ ι3 M3 q63 q3 q4 F3 => ?_) (fun _ q => by omega)
      have k3 : ι3 9 0 4 = 0 := by rw [F3 9 0 4 (by omega), F2 9 0 4 (by omega)]; exact k1
      exact fin ι1 ι2 ι3 _ B1 (by rw [app_len, rawL_len d hN2.1, bts_len]; omega) F1 F2 e1 e2 M3 q3 q4 F3 ⟨by rw [k3, q63], by rw [q63]; omega, fun i x y => by rw [q63] at y; omega⟩
    · refine tail ι1 (fun r ι2 => bC sc 259 [br 13 0, bi x1] ι2 (bk1 (fun r2 ι3 => r = r2 ∧ Jn (fun ι => Jo ι ∧ Jp ι) ι3) (fun _ _ => False))) _ F1 (fun ι2 F2 e1 e2 => ?_)
      have hmk : ∀ p, 0 ≤ p → p < N → 1 ≤ f p ∧ p + f p ≤ N := by rw [hf]; exact mk_ab hN2.2
      refine mrun ι1 ι2 _ _ F1 F2 (fun q => by omega) (fun _ q => by omega) (fun _ _ => ⟨ix, B0, Ba, Bb, L0, L1, L2, hCo, fun ι3 M3 A3 q3 q4 F3 => ?_⟩)
      have A3' : CmA ι3 nc A := (A1.fr F2.fr ⟨by omega, fun t j _ _ => by omega⟩).fr F3 ⟨by omega, fun t j _ _ => by omega⟩
      exact fin ι1 ι2 ι3 _ B1 (codL_len hN2 hmk hf4 (hL e e') hCo).2 F1 F2 e1 e2 M3 q3 q4 F3 ⟨by rw [A3'.1, A3.1], by rw [A3.1]; omega, fun i x y => by
        rw [A3.1] at y
        have a := A3'.2 i x y
        have b := A3.2 i x y
        rw [show 4 * i + 0 = 4 * i by omega, a.1, a.2.1, a.2.2.1, a.2.2.2.1, b.1, b.2.1, b.2.2.1, b.2.2.2.1]
        exact ⟨rfl, rfl, rfl, rfl⟩⟩
  · exact e_M_pack_0 (bif_f (by rw [if_pos (by omega)]; omega) (bif_f (by omega) ⟨rfl, hup⟩))
end PPack
