/-! one part of a row -/
section Part
variable {sc : bm_Sc} {β : Int → Int} {lim : Int}
theorem jx_num2 (hw : wfβ β lim) (p r0 : Int) (hp0 : 0 ≤ p) (hp1 : p ≤ lim) :
    ∃ (p' r v : Int), p ≤ p' ∧ p' ≤ lim ∧ (r0 ≠ 0 → r = r0 ∧ p' = p) ∧ (r0 = 0 → r = 0 ∨ r = 1) ∧ (0 ≤ v ∧ v < 4) ∧ (r ≠ 0 → v = 0) ∧
    (∀ (ι : bm_S) (K : Int → bm_S → Prop) (H : Nat × Int → bm_S → Prop), cR ι β lim p r0 → (∀ ι' : bm_S, cR ι' β lim p' r → Fr fR ι ι' → K v ι') → bC sc 4 [br 0 0, bi 2] ι (bk1 K H)) ∧
    (r0 = 0 → ∀ (ι : bm_S) (K : Int → bm_S → Prop) (H : Nat × Int → bm_S → Prop), mR ι β lim p → (r = 0 → ∀ ι' : bm_S, mR ι' β lim p' → Fr gR ι ι' → K v ι') → (r ≠ 0 → ∀ ι' : bm_S, mR ι' β lim p' → ι' 12 0 6 = r → Fr gR ι ι' → H (12, 0) ι') → bC sc 174 [br 13 0, bi 2] ι (bk1 K H)) := by
  have e4 : bm_p2 2 = 4 := rfl
  by_cases hr : r0 = 0
  · obtain ⟨p', r, v, i1, i2, i3, i4, i5, i6, i7, i8⟩ := j_number (sc := sc) hw 2 (by omega) p hp0 hp1
    exact ⟨p', r, v, i1, i2, fun e => absurd hr e, fun _ => i3, by omega, i6, fun ι K H hR h => i7 ι K H (by rw [hr] at hR; exact hR) h, fun _ => i8⟩
  · exact ⟨p, r0, 0, by omega, hp1, fun _ => ⟨rfl, rfl⟩, fun e => absurd e hr, by omega, fun _ => rfl, fun ι K H hR h => s_number_bad (by rw [hR.2.2.1]; exact hr) (h ι hR (Fr.refl _ _)), fun e => absurd e hr⟩
abbrev fOp (t : Nat) (i j : Int) : Prop := fCd t i j ∨ t = 8 ∧ (j = 3 ∨ j = 13 ∨ j = 14 ∨ j = 15)
abbrev gOp (t : Nat) (i j : Int) : Prop := gCd t i j ∨ t = 13 ∧ (j = 19 ∨ j = 42)
theorem op_R (t : Nat) (i j : Int) (q : fR t i j) : fOp t i j := Or.inl (Or.inl q)
theorem op_52 {t : Nat} {i j : Int} (q : t = 52) : fOp t i j := Or.inl (Or.inr (Or.inr (Or.inr (Or.inr (Or.inr (Or.inr (Or.inr (Or.inr (Or.inr ⟨by omega, by omega⟩)))))))))
abbrev fNp (t : Nat) (_ j : Int) : Prop := t = 52 ∨ t = 8 ∧ (j = 3 ∨ j = 14 ∨ j = 15)
theorem op_Np (t : Nat) (i j : Int) (q : fNp t i j) : fOp t i j := q.elim op_52 (fun q => Or.inr ⟨q.1, q.2.elim Or.inl (fun q => Or.inr (Or.inr q))⟩)
theorem op_Rw (t : Nat) (i j : Int) (q : fRw t i j) : fOp t i j := Or.inl (q.elim Or.inl (fun q => Or.inr (Or.inr (Or.inl q))))
theorem op_Ov (t : Nat) (i j : Int) (q : fOv t i j) : fOp t i j := q.elim (op_R t i j) op_52
theorem gp_R (t : Nat) (i j : Int) (q : gR t i j) : gOp t i j := Or.inl (Or.inl q)
theorem gp_76 {t : Nat} {i j : Int} (q : t = 76) : gOp t i j := Or.inl (Or.inr (Or.inr (Or.inr (Or.inr ⟨by omega, by omega⟩))))
abbrev gNp (t : Nat) (_ j : Int) : Prop := t = 76 ∨ t = 13 ∧ j = 19
theorem gp_Np (t : Nat) (i j : Int) (q : gNp t i j) : gOp t i j := q.elim gp_76 (fun q => Or.inr ⟨q.1, Or.inl q.2⟩)
theorem gp_Rw (t : Nat) (i j : Int) (q : gRw t i j) : gOp t i j := Or.inl (q.elim Or.inl (fun q => q.elim (fun q => Or.inr (Or.inr (Or.inl q))) (fun q => Or.inr (Or.inl ⟨q.1, Or.inl q.2⟩))))
theorem gp_Ov (t : Nat) (i j : Int) (q : gOv t i j) : gOp t i j := q.elim (gp_R t i j) gp_76
theorem nc_8 {j : Int} (h : j = 3 ∨ j = 13 ∨ j = 15) : ¬ fCd 8 0 j := by
  rcases h with rfl | rfl | rfl <;> decide
theorem nc_64 (i j : Int) : ¬ fCd 64 i j := by
  rintro (q | q | q | q | q | q | q | q | q | q) <;> omega
theorem nc_65 (i j : Int) : ¬ fCd 65 i j := by
  rintro (q | q | q | q | q | q | q | q | q | q) <;> omega
theorem nc_2 : ¬ fCd 2 0 1 := by decide
theorem nd_19 : ¬ gCd 13 0 19 := by decide
theorem nd_42 : ¬ gCd 13 0 42 := by decide
theorem nd_68 (i j : Int) : ¬ gCd 68 i j := by
  rintro (q | q | q | q | q) <;> omega
theorem nd_69 (i j : Int) : ¬ gCd 69 i j := by
  rintro (q | q | q | q | q) <;> omega
def SC (ι : bm_S) (lim s : Int) (f rg PA : Int → Int) (pc wn : Int) (g c : Int → Int) : Prop := ι 2 1 1 = s ∧ (∀ k, 0 ≤ k → k < s → ι 20 1 k = f k) ∧ (∀ i, 0 ≤ i → i < 4 → ι 51 0 i = rg i) ∧ PaC ι PA ∧ ι 8 0 3 = pc ∧ ι 8 0 13 = wn ∧ (∀ k, 0 ≤ k → k < 2240 → ι 64 0 k = g k) ∧ (∀ n, 4 ≤ n → n ≤ 10 → ι 65 0 n = c n) ∧ 8 * ι 2 0 1 = lim
def SM (ι : bm_S) (s : Int) (f rg PA : Int → Int) (pc wn : Int) (g c : Int → Int) : Prop := ι 13 0 6 = s ∧ (∀ k, 0 ≤ k → k < s → ι 67 0 k = f k) ∧ (∀ i, 0 ≤ i → i < 4 → ι 77 0 (3 - i) = rg i) ∧ PaM ι PA ∧ ι 13 0 19 = pc ∧ ι 13 0 42 = wn ∧ (∀ k, 0 ≤ k → k < 2240 → ι 68 0 k = g k) ∧ ∀ n, 4 ≤ n → n ≤ 10 → ι 69 0 n = c n
theorem TD.fr {ι ι' : bm_S} {tl cm has : Int} {W : bm_S} {P : Nat → Int → Int → Prop} (hT : TV tl cm has W) (h : TD ι tl cm has W) (hF : Fr P ι ι') (hP : ∀ i j : Int, ¬ P 43 i j ∧ ¬ P 44 i j ∧ ¬ P 45 i j ∧ ¬ P 46 i j ∧ ¬ P 47 i j ∧ ¬ P 7 i 8 ∧ ¬ P 7 i 9 ∧ ¬ P 3 i 2 ∧ ¬ P 21 i j ∧ ¬ P 22 i j ∧ ¬ P 8 0 4 ∧ ¬ P 8 0 5 ∧ ¬ P 8 0 6) : TD ι' tl cm has W := by
  obtain ⟨a1, a2, a3, a4⟩ := h
  have q := hP 0 0
  refine ⟨by rw [hF 8 0 4 q.2.2.2.2.2.2.2.2.2.2.1]; exact a1, by rw [hF 8 0 6 q.2.2.2.2.2.2.2.2.2.2.2.2]; exact a2, by rw [hF 8 0 5 q.2.2.2.2.2.2.2.2.2.2.2.1]; exact a3, fun e => (a4 e).fr (hT.2.2 e) hF (fun j => ?_) (fun x j _ _ => ?_)⟩
  · have := hP tl j
    exact ⟨this.1, this.2.1, this.2.2.1, this.2.2.2.1, this.2.2.2.2.1, this.2.2.2.2.2.1, this.2.2.2.2.2.2.1⟩
  · have := hP x j
    exact ⟨this.2.2.2.2.2.2.2.1, this.2.2.2.2.2.2.2.2.1, this.2.2.2.2.2.2.2.2.2.1⟩
theorem TDm.fr {ι ι' : bm_S} {has : Int} {W : bm_S} {P : Nat → Int → Int → Prop} (h : TDm ι has W) (hF : Fr P ι ι') (hP : ∀ j : Int, ¬ P 13 0 33 ∧ ¬ P 13 0 35 ∧ ¬ P 13 0 36 ∧ ¬ P 13 0 37 ∧ ¬ P 85 0 j ∧ ¬ P 86 0 j ∧ ¬ P 87 0 j ∧ ¬ P 88 0 j) : TDm ι' has W := ⟨by rw [hF 13 0 33 (hP 0).1]; exact h.1, fun e => (h.2 e).fr hF (fun j => (hP j).2)⟩
theorem SC.fr {ι ι' : bm_S} {s : Int} {f rg PA : Int → Int} {pc wn : Int} {g c : Int → Int} {P : Nat → Int → Int → Prop} (h : SC ι lim s f rg PA pc wn g c) (hF : Fr P ι ι') (hP : ∀ j : Int, ¬ P 2 1 1 ∧ ¬ P 20 1 j ∧ ¬ P 51 0 j ∧ ¬ P 52 0 j ∧ ¬ P 8 0 3 ∧ ¬ P 8 0 13 ∧ ¬ P 64 0 j ∧ ¬ P 65 0 j ∧ ¬ P 2 0 1) : SC ι' lim s f rg PA pc wn g c := by
  obtain ⟨a1, a2, a3, a4, a5, a6, a7, a8, a9⟩ := h
  have q := hP 0
  exact ⟨by rw [hF 2 1 1 q.1]; exact a1, fun k x y => by rw [hF 20 1 k (hP k).2.1]; exact a2 k x y, fun k x y => by rw [hF 51 0 k (hP k).2.2.1]; exact a3 k x y, a4.fr hF (fun j => (hP j).2.2.2.1), by rw [hF 8 0 3 q.2.2.2.2.1]; exact a5, by rw [hF 8 0 13 q.2.2.2.2.2.1]; exact a6, fun k x y => by rw [hF 64 0 k (hP k).2.2.2.2.2.2.1]; exact a7 k x y, fun k x y => by rw [hF 65 0 k (hP k).2.2.2.2.2.2.2.1]; exact a8 k x y, by rw [hF 2 0 1 q.2.2.2.2.2.2.2.2]; exact a9⟩
theorem SM.fr {ι ι' : bm_S} {s : Int} {f rg PA : Int → Int} {pc wn : Int} {g c : Int → Int} {P : Nat → Int → Int → Prop} (h : SM ι s f rg PA pc wn g c) (hF : Fr P ι ι') (hP : ∀ j : Int, ¬ P 13 0 6 ∧ ¬ P 67 0 j ∧ ¬ P 77 0 j ∧ ¬ P 76 0 j ∧ ¬ P 13 0 19 ∧ ¬ P 13 0 42 ∧ ¬ P 68 0 j ∧ ¬ P 69 0 j) : SM ι' s f rg PA pc wn g c := by
  obtain ⟨a1, a2, a3, a4, a5, a6, a7, a8⟩ := h
  have q := hP 0
  exact ⟨by rw [hF 13 0 6 q.1]; exact a1, fun k x y => by rw [hF 67 0 k (hP k).2.1]; exact a2 k x y, fun k x y => by rw [hF 77 0 (3 - k) (hP _).2.2.1]; exact a3 k x y, a4.fr hF (fun j => (hP j).2.2.2.1), by rw [hF 13 0 19 q.2.2.2.2.1]; exact a5, by rw [hF 13 0 42 q.2.2.2.2.2.1]; exact a6, fun k x y => by rw [hF 68 0 k (hP k).2.2.2.2.2.2.1]; exact a7 k x y, fun k x y => by rw [hF 69 0 k (hP k).2.2.2.2.2.2.2]; exact a8 k x y⟩
/-- where a part leads -/
def RC (β : Int → Int) (lim : Int) (ι ι' : bm_S) (p r la s : Int) (f rg PA : Int → Int) (pc tl cm has : Int) (W : bm_S) (wn : Int) (g c : Int → Int) : Prop := cR ι' β lim p r ∧ (r = 0 → SC ι' lim s f rg PA pc wn g c ∧ ι' 8 0 15 = la) ∧ EC ι' rg PA ∧ ι' 8 0 3 = pc ∧ TD ι' tl cm has W ∧ Fr fOp ι ι'
def RM (β : Int → Int) (lim : Int) (ι ι' : bm_S) (p s : Int) (f rg PA : Int → Int) (pc has : Int) (W : bm_S) (wn : Int) (g c : Int → Int) : Prop := mR ι' β lim p ∧ SM ι' s f rg PA pc wn g c ∧ TDm ι' has W ∧ Fr gOp ι ι'
def RE (β : Int → Int) (lim : Int) (ι ι' : bm_S) (p r : Int) (rg PA : Int → Int) (pc has : Int) (W : bm_S) : Prop := mR ι' β lim p ∧ ι' 12 0 6 = r ∧ EM ι' rg PA ∧ ι' 13 0 19 = pc ∧ TDm ι' has W ∧ Fr gOp ι ι'
def RV (lim p0 p r la s : Int) (f rg : Int → Int) (pc0 pc tl cm has : Int) (W : bm_S) : Prop := (p0 ≤ p ∧ p ≤ lim) ∧ (r = 0 ∨ 0 < r ∧ r < 18) ∧ (la = 0 ∨ la = 1) ∧ (r = 0 → 0 ≤ s ∧ s ≤ 3000 ∧ ∀ k, 0 ≤ k → k < s → -128 ≤ f k ∧ f k < 128) ∧ (∀ i, 0 ≤ i → i < 4 → 1 ≤ rg i ∧ rg i ≤ 4096) ∧ (0 ≤ pc ∧ pc ≤ pc0 + 1) ∧ TV tl cm has W
variable {s pc wn tl cm has : Int} {f rg PA g c : Int → Int} {W : bm_S}
theorem SC.ec {ι : bm_S} (h : SC ι lim s f rg PA pc wn g c) (hs : 0 ≤ s ∧ s ≤ 3000) : EC ι rg PA := ⟨by rw [h.1]; omega, h.2.2.1, h.2.2.2.1⟩
theorem SM.em {ι : bm_S} (h : SM ι s f rg PA pc wn g c) : EM ι rg PA := ⟨h.2.2.1, h.2.2.2.1⟩
theorem RC.err {ι ι' : bm_S} {p r : Int} (hs : 0 ≤ s ∧ s ≤ 3000) (hT : TV tl cm has W) (hS : SC ι lim s f rg PA pc wn g c) (hD : TD ι tl cm has W) (hR : cR ι' β lim p r) (hr : r ≠ 0) (hF : Fr fR ι ι') : RC β lim ι ι' p r 0 s f rg PA pc tl cm has W wn g c :=
  ⟨hR, fun e => absurd e hr, (hS.ec hs).fr hF (fun j => by omega), by rw [hF 8 0 3 (by omega)]; exact hS.2.2.2.2.1, hD.fr hT hF (fun i j => by omega), hF.wide op_R⟩
theorem RE.err {ι ι' : bm_S} {p r : Int} (hS : SM ι s f rg PA pc wn g c) (hD : TDm ι has W) (hR : mR ι' β lim p) (h6 : ι' 12 0 6 = r) (hF : Fr gR ι ι') : RE β lim ι ι' p r rg PA pc has W :=
  ⟨hR, h6, hS.em.fr hF (fun j => by omega), by rw [hF 13 0 19 (by omega)]; exact hS.2.2.2.2.1, hD.fr hF (fun j => by omega), hF.wide gp_R⟩
def nest (sc : bm_Sc) (Q : bm_O → bm_S → Prop) (x1 : Int) (ι : bm_S) : Prop := bC sc 81 [br 8 0, bi 0] ι (bk0 (fun ι6 => bC sc 81 [br 8 0, bi 1] ι6 (bk0 (fun ι7 => bC sc 81 [br 8 0, bi 2] ι7 (bk0 (fun ι8 => bC sc 82 [br 8 0] ι8 (bk0 (fun ι9 => bC sc 83 [br 8 0, bi 0] ι9 (bk0 (fun ι10 => bC sc 83 [br 8 0, bi 1] ι10 (bk0 (fun ι11 => bC sc 86 [br 8 0] ι11 (bk0 (fun ι12 => bW sc 69 77 [br 8 0, bi x1, bi 0] [] ι12 Q) (bq Q))) (bq Q))) (bq Q))) (bq Q))) (bq Q))) (bq Q))) (bq Q))
/-- a coded part, from its place among the parts on -/
theorem j_codedPart (hw : wfβ β lim) (hs : 0 ≤ s) {n : Int} (hn : 1 ≤ n ∧ s + n ≤ 3000) (hCO : CO pc wn g c) (hpc : pc ≤ 50000) (hT : TV tl cm has W) (hf : ∀ k, 0 ≤ k → k < s → -128 ≤ f k ∧ f k < 128) (hrg : ∀ i, 0 ≤ i → i < 4 → 1 ≤ rg i ∧ rg i ≤ 4096) {la : Int} (hla : la = 0 ∨ la = 1) {x1 : Int} (p : Int) (hp0 : 0 ≤ p) (hp1 : p ≤ lim) :
    ∃ (p' r : Int) (f' rg' PA' : Int → Int) (tl' cm' has' : Int) (W' : bm_S), RV lim p p' r la (s + n) f' rg' pc (pc + 1) tl' cm' has' W' ∧
    (∀ (ι : bm_S) (Q : bm_O → bm_S → Prop), cR ι β lim p 0 → SC ι lim s f rg PA pc wn g c → TD ι tl cm has W → (∀ (ι' : bm_S) (i' : Int), RC β lim ι ι' p' r la (s + n) f' rg' PA' (pc + 1) tl' cm' has' W' wn g c → bm_rg (x1 + 1) ∧ bW sc 69 10 [br 8 0, bi (x1 + 1), bi i'] [] ι' Q) → bC sc 77 [br 8 0, bi 3, bi n] (up ι 8 0 15 la) (bk0 (fun ι16 => (bm_rg (ι16 2 1 1 + n)) ∧ nest sc Q x1 (up ι16 8 0 14 (ι16 2 1 1 + n))) (bq Q))) ∧
    (∀ (ι : bm_S) (K : bm_S → Prop) (H : Nat × Int → bm_S → Prop), mR ι β lim p → SM ι s f rg PA pc wn g c → TDm ι has W → (r = 0 → ∀ ι' : bm_S, RM β lim ι ι' p' (s + n) f' rg' PA' (pc + 1) has' W' wn g c → K ι') → (r ≠ 0 → ∀ ι' : bm_S, RE β lim ι ι' p' r rg' PA' (pc + 1) has' W' → H (12, 0) ι') → bC sc 187 [br 13 0, bi 3, bi n] ι (bk0 (fun ι2 => bC sc 216 [br 13 0, bi n] ι2 (bk0 K H)) H)) := by
  have hCO1 : CO (pc + 1) wn g c := ⟨by have := hCO.1; omega, hCO.2⟩
  obtain ⟨p', r, f', rg', PA', tl', cm', has', W', i1, i2, i3, i4, i5, i6, i7, i8⟩ := j_coded (sc := sc) (x1 := x1) (PA := np PA (pc + 1) 3 n) hw hs hn hCO1 hT hf hrg (fun h w w1 w2 => np_z h ⟨w1, w2⟩) p hp0 hp1
  refine ⟨p', r, f', rg', PA', tl', cm', has', W', ⟨⟨i1, i2⟩, i3, hla, fun e => ⟨by omega, by omega, i4 e⟩, i5, by have := hCO.1; omega, i6⟩, ?_, ?_⟩
  · intro ι Q hR hS hD h
    have F0 : Fr (fun t i j => t = 8 ∧ j = 15) ι (up ι 8 0 15 la) := (Fr.refl _ _).u (by omega)
    have S0 := hS.fr F0 (fun j => by omega)
    refine s_addPart (pc := pc) (PA := PA) (by have := hCO.1; omega) (by rw [F0 0 0 3 (by omega)]; exact hR.2.2.1) S0.2.2.2.2.1 S0.2.2.2.1 (fun ι1 a1 a2 F1 => ?_)
    have z : ι1 2 1 1 = s := by rw [F1 2 1 1 (by omega)]; exact S0.1
    rw [z]
    have F2 : Fr fNp ι (up ι1 8 0 14 (s + n)) := ((F0.wide fun t i j q => by omega).trans (F1.wide fun t i j q => by omega)).u (by omega)
    refine ⟨by omega, i7 _ Q (hR.fr F2 (fun j => by omega) (by rw [F2 0 0 1 (by omega)]; exact hR.1) (by rw [F2 0 0 3 (by omega)]; exact hR.2.2.1)) ⟨by simp (disch := omega) only [up_s, up_k, up_j, up_i]; exact a1, by rw [F2 8 0 13 (by omega)]; exact hS.2.2.2.2.2.1, by simp (disch := omega) only [up_s, up_k, up_j, up_i], fun k x y => by rw [F2 64 0 k (by omega)]; exact hS.2.2.2.2.2.2.1 k x y, fun k x y => by rw [F2 65 0 k (by omega)]; exact hS.2.2.2.2.2.2.2.1 k x y⟩ (by rw [F2 2 1 1 (by omega)]; exact hS.1) (fun k x y => by rw [F2 20 1 k (by omega)]; exact hS.2.1 k x y) (fun k x y => by rw [F2 51 0 k (by omega)]; exact hS.2.2.1 k x y) (fun j x y => by simp (disch := omega) only [up_s, up_k, up_j, up_i]; exact a2 j x y) (hD.fr hT F2 (fun i j => by omega)) (fun ι3 i' x1 x2 x3 x4 F3 => ?_)⟩
    refine h ι3 i' ⟨x1, fun e => ⟨⟨(x2 e).1, (x2 e).2, x3.2.1, x3.2.2, by rw [F3 8 0 3 (nc_8 (by omega))]; simp (disch := omega) only [up_s, up_k, up_j, up_i]; exact a1, by rw [F3 8 0 13 (nc_8 (by omega)), F2 8 0 13 (by omega)]; exact hS.2.2.2.2.2.1, fun k x y => by rw [F3 64 0 k (nc_64 _ _), F2 64 0 k (by omega)]; exact hS.2.2.2.2.2.2.1 k x y, fun k x y => by rw [F3 65 0 k (nc_65 _ _), F2 65 0 k (by omega)]; exact hS.2.2.2.2.2.2.2.1 k x y, by rw [F3 2 0 1 nc_2, F2 2 0 1 (by omega)]; exact hS.2.2.2.2.2.2.2.2⟩, ?_⟩, x3, by rw [F3 8 0 3 (nc_8 (by omega))]; simp (disch := omega) only [up_s, up_k, up_j, up_i]; exact a1, x4, (F2.wide op_Np).trans (F3.wide fun t i j q => Or.inl q)⟩
    rw [F3 8 0 15 (nc_8 (by omega))]
    simp (disch := omega) only [up_s, up_k, up_j, up_i]
    rw [F1 8 0 15 (by omega)]
    simp (disch := omega) only [up_s, up_k, up_j, up_i]
  · intro ι K H hR hS hD h hh
    refine m_newPart (pc := pc) (PA := PA) (by have := hCO.1; omega) hS.2.2.2.2.1 hS.2.2.2.1 (fun ι1 a1 a2 F1 => ?_)
    refine i8 ι1 _ _ (hR.fr F1 (fun j => by omega) (by rw [F1 13 0 16 (by omega)]; exact hR.1)) ⟨a1, by rw [F1 13 0 42 (by omega)]; exact hS.2.2.2.2.2.1, fun k x y => by rw [F1 68 0 k (by omega)]; exact hS.2.2.2.2.2.2.1 k x y, fun k x y => by rw [F1 69 0 k (by omega)]; exact hS.2.2.2.2.2.2.2 k x y⟩ (by rw [F1 13 0 6 (by omega)]; exact hS.1) (fun k x y => by rw [F1 67 0 k (by omega)]; exact hS.2.1 k x y) (fun k x y => by rw [F1 77 0 (3 - k) (by omega)]; exact hS.2.2.1 k x y) a2 (hD.fr F1 (fun j => by omega)) (fun e ι2 x1 x2 x3 x4 x5 F2 => h e ι2 ?_) (fun e ι2 x1 x2 x3 x4 F2 => hh e ι2 ?_)
    · exact ⟨x1, ⟨x2, x3, x4.1, x4.2, by rw [F2 13 0 19 nd_19]; exact a1, by rw [F2 13 0 42 nd_42, F1 13 0 42 (by omega)]; exact hS.2.2.2.2.2.1, fun k x y => by rw [F2 68 0 k (nd_68 _ _), F1 68 0 k (by omega)]; exact hS.2.2.2.2.2.2.1 k x y, fun k x y => by rw [F2 69 0 k (nd_69 _ _), F1 69 0 k (by omega)]; exact hS.2.2.2.2.2.2.2 k x y⟩, x5, (F1.wide gp_Np).trans (F2.wide fun t i j q => Or.inl q)⟩
    · exact ⟨x1, x2, x3, by rw [F2 13 0 19 nd_19]; exact a1, x4, (F1.wide gp_Np).trans (F2.wide fun t i j q => Or.inl q)⟩
end Part
