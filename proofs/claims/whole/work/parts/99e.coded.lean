/-! a coded part; a raw part; a part that is passed over -/
section Coded
variable {sc : bm_Sc} {β : Int → Int} {lim : Int}
theorem TC.fr {ι ι' : bm_S} {tl : Int} {W : bm_S} {P : Nat → Int → Int → Prop} (hO : HO W) (h : TC ι tl W) (hF : Fr P ι ι') (hP : ∀ j : Int, ¬ P 43 tl j ∧ ¬ P 44 tl j ∧ ¬ P 45 tl j ∧ ¬ P 46 tl j ∧ ¬ P 47 tl j ∧ ¬ P 7 tl 8 ∧ ¬ P 7 tl 9) (hC : ∀ c j : Int, 36 * tl ≤ c → c < 36 * tl + 36 → ¬ P 3 c 2 ∧ ¬ P 21 c j ∧ ¬ P 22 c j) : TC ι' tl W := by
  obtain ⟨a1, a2, a3, a4, a5, a6, a7, a8, a9⟩ := h
  have q := hP 0
  have n0 := hO.2.2.2.1
  have n2 := hO.2.2.2.2.1
  have n1 := (hO.1 1 (by omega) (by omega)).1
  refine ⟨fun k x y => by rw [hF 43 tl k (hP k).1]; exact a1 k x y, by rw [hF 7 tl 8 q.2.2.2.2.2.1]; exact a2, by rw [hF 7 tl 9 q.2.2.2.2.2.2]; exact a3, by rw [hF 44 tl 0 q.2.1]; exact a4, by rw [hF 44 tl 1 (hP 1).2.1]; exact a5, fun k x y => by rw [hF 45 tl k (hP k).2.2.1]; exact a6 k x y, fun k x y => by rw [hF 46 tl k (hP k).2.2.2.1]; exact a7 k x y, fun k x y => by rw [hF 47 tl k (hP k).2.2.2.2.1]; exact a8 k x y, ?_⟩
  exact ⟨a9.1.fr hF (fun t j x y => hC _ j (by omega) (by omega)), a9.2.1.fr hF (fun t j x y => hC _ j (by omega) (by omega)), a9.2.2.fr hF (fun t j x y => hC _ j (by omega) (by omega))⟩
theorem TM.fr {ι ι' : bm_S} {W : bm_S} {P : Nat → Int → Int → Prop} (h : TM ι W) (hF : Fr P ι ι') (hP : ∀ j : Int, ¬ P 13 0 35 ∧ ¬ P 13 0 36 ∧ ¬ P 13 0 37 ∧ ¬ P 85 0 j ∧ ¬ P 86 0 j ∧ ¬ P 87 0 j ∧ ¬ P 88 0 j) : TM ι' W := by
  obtain ⟨a1, a2, a3, a4, a5, a6, a7, a8, a9⟩ := h
  have q := hP 0
  exact ⟨by rw [hF 13 0 35 q.1]; exact a1, by rw [hF 13 0 36 q.2.1]; exact a2, by rw [hF 13 0 37 q.2.2.1]; exact a3, fun k x y => by rw [hF 85 0 k (hP k).2.2.2.1]; exact a4 k x y, fun k x y => by rw [hF 87 0 k (hP k).2.2.2.2.2.1]; exact a5 k x y, fun k x y => by rw [hF 88 0 k (hP k).2.2.2.2.2.2]; exact a6 k x y, fun t s b1 b2 b3 b4 => by rw [hF 86 0 _ (hP _).2.2.2.2.1]; exact a7 t s b1 b2 b3 b4, fun t s b1 b2 b3 b4 => by rw [hF 86 0 _ (hP _).2.2.2.2.1]; exact a8 t s b1 b2 b3 b4, fun t s b1 b2 b3 b4 => by rw [hF 86 0 _ (hP _).2.2.2.2.1]; exact a9 t s b1 b2 b3 b4⟩
/-- what is told -/
def TD (ι : bm_S) (tl cm has : Int) (W : bm_S) : Prop := ι 8 0 4 = tl ∧ ι 8 0 6 = cm ∧ ι 8 0 5 = has ∧ (has = 1 → TC ι tl W)
def TDm (ι : bm_S) (has : Int) (W : bm_S) : Prop := ι 13 0 33 = has ∧ (has = 1 → TM ι W)
def TV (tl cm has : Int) (W : bm_S) : Prop := (tl = 0 ∧ cm = 1 ∨ tl = 1 ∧ cm = 0) ∧ (has = 0 ∨ has = 1) ∧ (has = 1 → HO W)
abbrev fCd (t : Nat) (i j : Int) : Prop := fR t i j ∨ t = 1 ∨ (t = 2 ∨ t = 20) ∧ i = 1 ∨ t = 3 ∧ j = 2 ∨ t = 4 ∧ (j = 5 ∨ j = 6 ∨ j = 7) ∨ t = 7 ∧ (j = 8 ∨ j = 9) ∨ t = 8 ∧ (j = 4 ∨ j = 5 ∨ j = 6) ∨ 21 ≤ t ∧ t ≤ 25 ∨ 43 ≤ t ∧ t ≤ 47 ∨ 51 ≤ t ∧ t ≤ 53
abbrev gCd (t : Nat) (i j : Int) : Prop := gR t i j ∨ t = 13 ∧ (j = 6 ∨ j = 10 ∨ j = 22 ∨ j = 23 ∨ j = 29 ∨ j = 30 ∨ j = 33 ∨ j = 35 ∨ j = 36 ∨ j = 37) ∨ t = 67 ∨ 70 ≤ t ∧ t ≤ 73 ∨ 75 ≤ t ∧ t ≤ 89
theorem w_fHd {cm : Int} (t : Nat) (i j : Int) (h : fHd cm t i j) : fCd t i j := by
  rcases h with (((h | h) | h) | h) | h
  · rcases h with h | h
    · rcases h with h | h | h | h | h | h <;> omega
    · omega
  · rcases h with (h | h | h | h) | h | h <;> omega
  · rcases h with (h | h | h | h) | h | h <;> omega
  · rcases h with (h | h) | h | h <;> omega
  · rcases h with h | h | h | h | h | h | h | h | h <;> omega
theorem w_gHd (t : Nat) (i j : Int) (h : gHd t i j) : gCd t i j := by
  rcases h with (((h | h) | h) | h) | h | h | h
  · rcases h with h | h | h | h <;> omega
  · rcases h with (h | h | h | h) | h | h <;> omega
  · rcases h with (h | h | h | h) | h | h <;> omega
  · rcases h with (h | h) | h | h <;> omega
  · rcases h with h | h | h | h | h <;> omega
  · omega
  · omega
theorem w_gHk (t : Nat) (i j : Int) (h : gHd t i j ∨ gKe t i j) : gCd t i j := by
  rcases h with h | h
  · exact w_gHd t i j h
  · omega
theorem w_fLp (t : Nat) (i j : Int) (h : fLp t i j) : fCd t i j := by omega
theorem w_gLp (t : Nat) (i j : Int) (h : gLp t i j) : gCd t i j := by omega
variable {s n pc wn tl cm has x1 : Int} {f rg PA g c : Int → Int} {W : bm_S}
/-- a coded part -/
theorem j_coded (hw : wfβ β lim) (hs : 0 ≤ s) (hn : 1 ≤ n ∧ s + n ≤ 3000) (hCO : CO pc wn g c) (hT : TV tl cm has W) (hf : ∀ k, 0 ≤ k → k < s → -128 ≤ f k ∧ f k < 128) (hrg : ∀ i, 0 ≤ i → i < 4 → 1 ≤ rg i ∧ rg i ≤ 4096) (hz : 1 ≤ pc ∧ pc ≤ 60 → ∀ w, 2 ≤ w → w < 12 → PA (12 * (pc - 1) + w) = 0) (p : Int) (hp0 : 0 ≤ p) (hp1 : p ≤ lim) :
    ∃ (p' r : Int) (f' rg' PA' : Int → Int) (tl' cm' has' : Int) (W' : bm_S), p ≤ p' ∧ p' ≤ lim ∧ (r = 0 ∨ 0 < r ∧ r < 18) ∧ (r = 0 → ∀ k, 0 ≤ k → k < s + n → -128 ≤ f' k ∧ f' k < 128) ∧ (∀ i, 0 ≤ i → i < 4 → 1 ≤ rg' i ∧ rg' i ≤ 4096) ∧ TV tl' cm' has' W' ∧
    (∀ (ι : bm_S) (Q : bm_O → bm_S → Prop), cR ι β lim p 0 → CC ι pc wn (s + n) g c → ι 2 1 1 = s → (∀ k, 0 ≤ k → k < s → ι 20 1 k = f k) → (∀ i, 0 ≤ i → i < 4 → ι 51 0 i = rg i) → PaC ι PA → TD ι tl cm has W → (∀ (ι' : bm_S) (i' : Int), cR ι' β lim p' r → (r = 0 → ι' 2 1 1 = s + n ∧ ∀ k, 0 ≤ k → k < s + n → ι' 20 1 k = f' k) → EC ι' rg' PA' → TD ι' tl' cm' has' W' → Fr fCd ι ι' → bm_rg (x1 + 1) ∧ bW sc 69 10 [br 8 0, bi (x1 + 1), bi i'] [] ι' Q) →
      bC sc 81 [br 8 0, bi 0] ι (bk0 (fun ι6 => bC sc 81 [br 8 0, bi 1] ι6 (bk0 (fun ι7 => bC sc 81 [br 8 0, bi 2] ι7 (bk0 (fun ι8 => bC sc 82 [br 8 0] ι8 (bk0 (fun ι9 => bC sc 83 [br 8 0, bi 0] ι9 (bk0 (fun ι10 => bC sc 83 [br 8 0, bi 1] ι10 (bk0 (fun ι11 => bC sc 86 [br 8 0] ι11 (bk0 (fun ι12 => bW sc 69 77 [br 8 0, bi x1, bi 0] [] ι12 Q) (bq Q))) (bq Q))) (bq Q))) (bq Q))) (bq Q))) (bq Q))) (bq Q))) ∧
    (∀ (ι : bm_S) (K : bm_S → Prop) (H : Nat × Int → bm_S → Prop), mR ι β lim p → CM ι pc wn g c → ι 13 0 6 = s → (∀ k, 0 ≤ k → k < s → ι 67 0 k = f k) → (∀ i, 0 ≤ i → i < 4 → ι 77 0 (3 - i) = rg i) → PaM ι PA → TDm ι has W → (r = 0 → ∀ ι' : bm_S, mR ι' β lim p' → ι' 13 0 6 = s + n → (∀ k, 0 ≤ k → k < s + n → ι' 67 0 k = f' k) → EM ι' rg' PA' → TDm ι' has' W' → Fr gCd ι ι' → K ι') → (r ≠ 0 → ∀ ι' : bm_S, mR ι' β lim p' → ι' 12 0 6 = r → EM ι' rg' PA' → TDm ι' has' W' → Fr gCd ι ι' → H (12, 0) ι') → bC sc 216 [br 13 0, bi n] ι (bk0 K H)) := by
  obtain ⟨p1, r1, W1, lf, PA1, i1, i2, i3, iP, i4, i5, i6⟩ := j_heads (sc := sc) (cm := cm) (tl := tl) hw (by have := hT.1; omega) (by have := hT.1; omega) hCO.1 PA (fun a b => ⟨hz ⟨a, b⟩ 7 (by omega) (by omega), hz ⟨a, b⟩ 8 (by omega) (by omega)⟩) p hp0 hp1
  have hct : cm ≠ tl ∧ (cm = 0 ∨ cm = 1) ∧ (tl = 0 ∨ tl = 1) := by have := hT.1; omega
  by_cases hr : r1 = 0
  · obtain ⟨hO, hKW⟩ := i4 hr
    have hV : LV W1 s f (fun q => t3 0 1 (lf q)) rg := ⟨hf, fun q a b => by show KW (W1 0 q 0) (t3 0 1 (lf q) 0) (t3 0 1 (lf q) 1) (t3 0 1 (lf q) 2); rw [t3_0, t3_1, t3_2]; exact hKW q a b, hrg⟩
    have hB : PB PA1 pc s := fun a b w w1 w2 => by rw [iP w w1, hz ⟨a, b⟩ w (by omega) (by omega)]; omega
    obtain ⟨p2, r2, s2, f2, rg2, PA2, k1, k2, k3, k4, k5, k6, k7⟩ := j_commands (sc := sc) (tl := cm) (v1 := bi n) (x1 := x1) (en := s + n) hw hO hCO (by omega) (by omega) n.toNat s f (fun q => t3 0 1 (lf q)) rg PA1 p1 (by omega) hs (by omega) hV hB (by omega) i2
    refine ⟨p2, r2, f2, rg2, PA2, cm, tl, 1, W1, by omega, k2, k3, fun e k a b => (k4 e).2 k a (by rw [(k4 e).1]; exact b), k5, ⟨by omega, Or.inr rfl, fun _ => hO⟩, ?_, ?_⟩
    · intro ι Q hR hC a1 a2 a3 a4 hD h
      refine i5 ι _ _ hR hC.1 hD.2.1 hD.1 a4 (fun ι1 x1 y1 z1 _ F1 => ?_)
      rw [hr] at x1
      obtain ⟨u1, u2, u3, u4⟩ := z1 hr
      have C1 : CC ι1 pc wn (s + n) g c := ⟨by rw [F1 8 0 3 (by omega)]; exact hC.1, by rw [F1 8 0 13 (by omega)]; exact hC.2.1, by rw [F1 8 0 14 (by omega)]; exact hC.2.2.1, fun k a b => by rw [F1 64 0 k (by omega)]; exact hC.2.2.2.1 k a b, fun k a b => by rw [F1 65 0 k (by omega)]; exact hC.2.2.2.2 k a b⟩
      refine k6 ι1 Q 0 x1 u1 C1 ⟨by rw [F1 2 1 1 (by omega)]; exact a1, fun k a b => by rw [F1 20 1 k (by omega)]; exact a2 k a b, fun q a b => ?_, fun i a b => by rw [F1 51 0 i (by omega)]; exact a3 i a b, y1⟩ (by omega) hs (fun ι2 i' x2 y2 z2 F2 => h ι2 i' x2 y2 z2 ?_ ((F1.wide w_fHd).trans (F2.wide w_fLp)))
      · show KC ι1 q (W1 0 q 0) (t3 0 1 (lf q) 0) (t3 0 1 (lf q) 1) (t3 0 1 (lf q) 2)
        rw [t3_0, t3_1, t3_2]; exact u2 q a b
      · have u5 := u1.fr F2
        exact ⟨u5.1, by rw [F2 8 0 6 (by omega)]; exact u3, by rw [F2 8 0 5 (by omega)]; exact u4, fun _ => u5.2.1⟩
    · intro ι K H hR hC a1 a2 a3 a4 hD h hh
      refine e_M_readCoded_0 (i6 ι _ _ hR hC.1 a4 (fun _ ι1 x1 y1 z1 t1 u1 v1 F1 => ?_) (fun e => absurd hr e))
      have s1 : ι1 13 0 6 = s := by rw [F1 13 0 6 (by omega)]; exact a1
      rw [s1]
      have C1 : CM ι1 pc wn g c := ⟨by rw [F1 13 0 19 (by omega)]; exact hC.1, by rw [F1 13 0 42 (by omega)]; exact hC.2.1, fun k a b => by rw [F1 68 0 k (by omega)]; exact hC.2.2.1 k a b, fun k a b => by rw [F1 69 0 k (by omega)]; exact hC.2.2.2 k a b⟩
      refine ⟨by omega, k7 ι1 _ _ _ _ _ _ _ _ x1 z1 C1 ⟨s1, fun k a b => by rw [F1 67 0 k (by omega)]; exact a2 k a b, fun q a b => ?_, fun i a b => by rw [F1 77 0 (3 - i) (by omega)]; exact a3 i a b, y1⟩ (fun e ι2 x2 y2 z2 t2 F2 => h e ι2 x2 y2 z2 t2 ⟨by rw [F2 13 0 33 (by omega)]; exact u1, fun _ => t1.fr F2 (fun j => by omega)⟩ ((F1.wide w_gHk).trans (F2.wide w_gLp))) (fun e ι2 x2 y2 z2 F2 => hh e ι2 x2 y2 z2 ⟨by rw [F2 13 0 33 (by omega)]; exact u1, fun _ => t1.fr F2 (fun j => by omega)⟩ ((F1.wide w_gHk).trans (F2.wide w_gLp)))⟩
      show KM ι1 q (W1 0 q 0) (t3 0 1 (lf q) 0) (t3 0 1 (lf q) 1) (t3 0 1 (lf q) 2)
      rw [t3_0, t3_1, t3_2]; exact v1 q a b
  · refine ⟨p1, r1, f, rg, PA1, tl, cm, has, W, i1, i2, i3, fun e => absurd e hr, hrg, hT, ?_, ?_⟩
    · intro ι Q hR hC a1 a2 a3 a4 hD h
      refine i5 ι _ _ hR hC.1 hD.2.1 hD.1 a4 (fun ι1 x1 y1 _ z1 F1 => ?_)
      obtain ⟨u1, u2, u3⟩ := z1 hr
      have hK := h ι1 0 x1 (fun e => absurd e hr) ⟨by rw [F1 2 1 1 (by omega), a1]; omega, fun i a b => by rw [F1 51 0 i (by omega)]; exact a3 i a b, y1⟩ ⟨u1, u2, u3.trans hD.2.2.1, fun e => (hD.2.2.2 e).fr (hT.2.2 e) F1 (fun j => by omega) (fun c j _ _ => by omega)⟩ (F1.wide w_fHd)
      exact e_O_openAll_77 (bif_i (fun _ => hK) (fun _ => bif_i (fun _ => hK) (fun _ => s_fine (fun e => absurd (x1.2.2.1.symm.trans e) hr) (fun _ => bif_t rfl hK))))
    · intro ι K H hR hC a1 a2 a3 a4 hD h hh
      exact e_M_readCoded_0 (i6 ι _ _ hR hC.1 a4 (fun e => absurd e hr) (fun e ι1 x1 y1 z1 F1 => hh e ι1 x1 y1 ⟨fun i a b => by rw [F1 77 0 (3 - i) (by omega)]; exact a3 i a b, z1⟩ ⟨by rw [F1 13 0 33 (by omega)]; exact hD.1, fun e => (hD.2 e).fr F1 (fun j => by omega)⟩ (F1.wide w_gHd)))
end Coded
