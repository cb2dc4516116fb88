/-! one of a block is taken -/
def KC (ι : bm_S) (q kd k bf lf : Int) : Prop := ι 1 q 2 = kd ∧ ι 1 q 3 = k ∧ ι 1 q 4 = bf ∧ ι 1 q 5 = lf
def KM (ι : bm_S) (q kd k bf lf : Int) : Prop := ι 78 0 q = kd ∧ ι 79 0 q = k ∧ ι 80 0 q = bf ∧ ι 81 0 q = lf
def KW (kd k bf lf : Int) : Prop := (1 ≤ kd ∧ kd ≤ 12) ∧ (0 ≤ k ∧ k < kd) ∧ (2 ≤ kd → 0 ≤ bf ∧ bf < kd) ∧ 0 ≤ lf ∧ lf ≤ 20000000
def KO (kd lk : Int) (Lk : Int → Int) (lc : Int) (Lc : Int → Int) : Prop := 2 ≤ kd → CodeOK lk Lk (kd + 2).toNat ∧ CodeOK lc Lc 26
def KcC (ι : bm_S) (q kd lk : Int) (Lk : Int → Int) (lc : Int) (Lc : Int → Int) : Prop := 2 ≤ kd → CodeC ι (74 + 2 * q) lk Lk (kd + 2).toNat ∧ CodeC ι (75 + 2 * q) lc Lc 26
def KcM (ι : bm_S) (q kd lk : Int) (Lk : Int → Int) (lc : Int) (Lc : Int → Int) : Prop := 2 ≤ kd → CodeM ι (14 * q) lk Lk (kd + 2).toNat ∧ CodeM ι (42 + 26 * q) lc Lc 26
abbrev fK (q : Int) (t : Nat) (i j : Int) : Prop := fR t i j ∨ t = 1 ∧ i = q ∧ (j = 3 ∨ j = 4 ∨ j = 5)
abbrev gK (q : Int) (t : Nat) (i j : Int) : Prop := gR t i j ∨ (t = 79 ∨ t = 80 ∨ t = 81) ∧ j = q
section Take
variable {sc : bm_Sc} {β : Int → Int} {lim : Int}
theorem KcC.fr {ι ι' : bm_S} {q kd lk : Int} {Lk : Int → Int} {lc : Int} {Lc : Int → Int} {P : Nat → Int → Int → Prop} (h : KcC ι q kd lk Lk lc Lc) (hF : Fr P ι ι') (hP : ∀ c, (c = 74 + 2 * q ∨ c = 75 + 2 * q) → ∀ j, ¬ P 3 c 2 ∧ ¬ P 21 c j ∧ ¬ P 22 c j) : KcC ι' q kd lk Lk lc Lc := fun e => ⟨(h e).1.fr hF (hP _ (Or.inl rfl)), (h e).2.fr hF (hP _ (Or.inr rfl))⟩
theorem KcM.fr {ι ι' : bm_S} {q kd lk : Int} {Lk : Int → Int} {lc : Int} {Lc : Int → Int} {P : Nat → Int → Int → Prop} (h : KcM ι q kd lk Lk lc Lc) (hF : Fr P ι ι') (hk : kd ≤ 12) (hP : ∀ j : Int, (14 * q ≤ j ∧ j < 14 * q + 14 ∨ 42 + 26 * q ≤ j ∧ j < 42 + 26 * q + 26) → ¬ P 73 0 j ∧ ¬ P 71 0 j ∧ ¬ P 72 0 j) : KcM ι' q kd lk Lk lc Lc := fun e =>
  ⟨(h e).1.fr hF (fun s hs => ⟨(hP (14 * q) (by omega)).1, (hP (14 * q + s) (by omega)).2.1, (hP (14 * q + s) (by omega)).2.2⟩) (by omega), (h e).2.fr hF (fun s hs => ⟨(hP (42 + 26 * q) (by omega)).1, (hP (42 + 26 * q + s) (by omega)).2.1, (hP (42 + 26 * q + s) (by omega)).2.2⟩) (by omega)⟩
/-- what comes next -/
def nxk (kd k bf t : Int) : Int := if t = 0 then bf else if t = 1 then (k + 1) % kd else t - 2
theorem nxk_rg {kd k bf t : Int} (hk : 2 ≤ kd ∧ kd ≤ 12) (h1 : 0 ≤ k ∧ k < kd) (h2 : 0 ≤ bf ∧ bf < kd) (ht : 0 ≤ t ∧ t < kd + 2) : 0 ≤ nxk kd k bf t ∧ nxk kd k bf t < kd := by
  unfold nxk
  split
  · exact h2
  · split
    · exact ⟨Int.emod_nonneg _ (by omega), Int.emod_lt_of_pos _ (by omega)⟩
    · omega
theorem s_changeTo {ι : bm_S} {K : bm_S → Prop} {H : Nat × Int → bm_S → Prop} {q kd k bf t : Int} (hk : 2 ≤ kd ∧ kd ≤ 12) (h1 : 0 ≤ k ∧ k < kd) (h2 : 0 ≤ bf ∧ bf < kd) (ht : 0 ≤ t ∧ t < kd + 2) (e2 : ι 1 q 2 = kd) (e3 : ι 1 q 3 = k) (e4 : ι 1 q 4 = bf) (h : K (up (up ι 1 q 4 k) 1 q 3 (nxk kd k bf t))) : bC sc 13 [br 1 q, bi t] ι (bk0 K H) := by
  have hn := nxk_rg hk h1 h2 ht
  unfold nxk at h hn
  refine e_K_changeTo_0 ?_
  rw [e2, e3, e4]
  refine ⟨by omega, bif_i (fun c => ?_) (fun c => bif_i (fun c1 => ⟨by omega, bif_i (fun c2 => ?_) (fun c2 => ⟨by omega, ?_⟩)⟩) (fun c1 => ?_))⟩
  · rw [if_pos c] at h; rw [show min bf 11 = bf by omega]; exact h
  · rw [if_neg c, if_pos c1, show k + 1 = kd by omega, Int.emod_self] at h
    exact h
  · rw [if_neg c, if_pos c1, Int.emod_eq_of_lt (by omega) (by omega)] at h
    rw [show min (k + 1) 11 = k + 1 by omega]; exact h
  · rw [if_neg c, if_neg c1] at h hn
    rw [show min (t - 2) 11 = t - 2 by omega]; exact h
theorem j_takeOne (hw : wfβ β lim) (q : Int) (hq : 0 ≤ q ∧ q < 3) {kd k bf lf lk lc : Int} {Lk Lc : Int → Int} (hW : KW kd k bf lf) (hO : KO kd lk Lk lc Lc) (p : Int) (h0 : 0 ≤ p) (h1 : p ≤ lim) :
    ∃ (p' r k' bf' lf' : Int), p ≤ p' ∧ p' ≤ lim ∧ (r = 0 ∨ r = 1 ∧ p' = lim) ∧ KW kd k' bf' lf' ∧
    (∀ (ι : bm_S) (K : bm_S → Prop) (H : Nat × Int → bm_S → Prop), cR ι β lim p 0 → KC ι q kd k bf lf → KcC ι q kd lk Lk lc Lc → (∀ ι' : bm_S, cR ι' β lim p' r → (r = 0 → KC ι' q kd k' bf' lf') → (0 ≤ ι' 1 q 3 ∧ ι' 1 q 3 < 12) → Fr (fK q) ι ι' → K ι') → bC sc 12 [br 1 q, br 0 0] ι (bk0 K H)) ∧
    (∀ (ι : bm_S) (K : bm_S → Prop) (H : Nat × Int → bm_S → Prop), mR ι β lim p → KM ι q kd k bf lf → KcM ι q kd lk Lk lc Lc → (r = 0 → ∀ ι' : bm_S, mR ι' β lim p' → KM ι' q kd k' bf' lf' → Fr (gK q) ι ι' → K ι') → (r ≠ 0 → ∀ ι' : bm_S, mR ι' β lim p' → ι' 12 0 6 = r → Fr (gK q) ι ι' → H (12, 0) ι') → bC sc 195 [br 13 0, bi q] ι (bk0 K H)) := by
  have hW' := hW
  obtain ⟨k1, k2, k3, k4⟩ := hW
  by_cases c1 : kd = 1
  · refine ⟨p, 0, k, bf, lf, by omega, h1, Or.inl rfl, hW', ?_, ?_⟩
    · intro ι K H hR hK hC h
      obtain ⟨e2, e3, e4, e5⟩ := hK
      exact e_K_takeOne_0 (bif_f (by omega) (h ι hR (fun _ => ⟨e2, e3, e4, e5⟩) (by omega) (Fr.refl _ _)))
    · intro ι K H hR hK hC h hh
      exact e_M_takeOne_0 ⟨by omega, bif_t (by rw [hK.1]; exact c1) (h rfl ι hR hK (Fr.refl _ _))⟩
  · have hk2 : 2 ≤ kd ∧ kd ≤ 12 := by omega
    have hb := k3 hk2.1
    by_cases c2 : lf = 0
    · obtain ⟨hO1, hO2⟩ := hO hk2.1
      have hcap : (((kd + 2).toNat : Nat) : Int) ≤ bm_L 22 (74 + 2 * q) := by
        have : bm_L 22 (74 + 2 * q) = 14 := by rcases (show q = 0 ∨ q = 1 ∨ q = 2 by omega) with rfl | rfl | rfl <;> rfl
        omega
      obtain ⟨p1, r1, s, i1, i2, i3, i4, i5, i6⟩ := j_signT (sc := sc) (a := (kd + 2).toNat) hw (by omega) hO1 p h0 h1
      have hnx := nxk_rg (t := (s : Int)) hk2 k2 hb (by omega)
      have hnx0 := nxk_rg (t := 0) hk2 k2 hb (by omega)
      by_cases hr : r1 = 0
      · obtain ⟨p2, r2, v, t1, t2, t3, t4, t5, t6, t7⟩ := j_count (sc := sc) hw hO2 q hq p1 (by omega) i2
        refine ⟨p2, r2, nxk kd k bf s, k, v - 1, by omega, t2, t3, ⟨k1, hnx, fun _ => k2, by omega, by omega⟩, ?_, ?_⟩
        · intro ι K H hR hK hC h
          obtain ⟨e2, e3, e4, e5⟩ := hK
          obtain ⟨hC1, hC2⟩ := hC hk2.1
          refine e_K_takeOne_0 (bif_t (by omega) (bif_t (by omega) (i5 ι _ _ _ hcap hR hC1 fun ι1 a1 a2 => ?_)))
          rw [hr] at a1
          rw [if_pos hr]
          refine s_changeTo hk2 k2 hb (by omega) (by rw [a2 1 q 2 (by omega)]; exact e2) (by rw [a2 1 q 3 (by omega)]; exact e3) (by rw [a2 1 q 4 (by omega)]; exact e4) ?_
          have hF : Fr (fun t i j => t = 1 ∧ i = q ∧ (j = 3 ∨ j = 4)) ι1 (up (up ι1 1 q 4 k) 1 q 3 (nxk kd k bf s)) := ((Fr.refl _ _).u (by omega)).u (by omega)
          refine t6 _ _ _ (a1.fr hF (fun j => by omega) (by simp (disch := omega) only [up_s, up_k, up_j, up_i]; exact a1.1) (by simp (disch := omega) only [up_s, up_k, up_j, up_i]; exact a1.2.2.1)) ((hC2.fr a2 (fun j => by omega)).fr hF (fun j => by omega)) fun ι2 b1 b2 b3 b4 => ⟨by omega, ?_⟩
          have hF2 : Fr (fK q) ι (up ι2 1 q 5 (ι2 1 q 5 - 1)) := (((a2.wide fun t i j q => by omega).trans (hF.wide fun t i j q => by omega)).trans (b4.wide fun t i j q => by omega)).u (by omega)
          have e3' : up ι2 1 q 5 (ι2 1 q 5 - 1) 1 q 3 = nxk kd k bf s := by
            rw [up_j (by decide), b4 1 q 3 (by omega), up_s]
          refine h _ (hR.fr hF2 (fun j => by omega) (by simp (disch := omega) only [up_s, up_k, up_j, up_i]; exact b1.1) (by simp (disch := omega) only [up_s, up_k, up_j, up_i]; exact b1.2.2.1)) (fun e => ⟨?_, e3', ?_, ?_⟩) (by rw [e3']; omega) hF2
          · rw [up_j (by decide), b4 1 q 2 (by omega), up_j (by decide), up_j (by decide), a2 1 q 2 (by omega)]; exact e2
          · rw [up_j (by decide), b4 1 q 4 (by omega), up_j (by decide), up_s]
          · rw [up_s, b2 e]
        · intro ι K H hR hK hC h hh
          obtain ⟨e2, e3, e4, e5⟩ := hK
          obtain ⟨hC1, hC2⟩ := hC hk2.1
          have hcast : (((kd + 2).toNat : Nat) : Int) = ι 78 0 q + 2 := by rw [e2]; omega
          refine e_M_takeOne_0 ⟨by omega, bif_f (by omega) ⟨by omega, bif_t (by omega) ⟨by omega, by omega, by omega, ?_⟩⟩⟩
          rw [← hcast]
          refine i6 ι (14 * q) _ _ (by omega) (by omega) hR hC1 (fun _ ι1 a1 a2 => ?_) (fun e => by omega)
          have x2 : ι1 78 0 q = kd := by rw [a2 78 0 q (by omega)]; exact e2
          have x3 : ι1 79 0 q = k := by rw [a2 79 0 q (by omega)]; exact e3
          have x4 : ι1 80 0 q = bf := by rw [a2 80 0 q (by omega)]; exact e4
          have cont : ∀ (x : Int) (K2 : bm_S → Prop), x = nxk kd k bf s → (K2 = K) → bC sc 193 [br 13 0, bi q] (up (up ι1 80 0 q (ι1 79 0 q)) 79 0 q x) (bk1 (fun r4 ι4 => (0 ≤ q ∧ q < (3 : Int)) ∧ (0 ≤ q ∧ q < (3 : Int)) ∧ (bm_rg ((up ι4 81 0 q r4) 81 0 q - 1)) ∧ (0 ≤ q ∧ q < (3 : Int)) ∧ bk0 K H (.inl none) (up (up ι4 81 0 q r4) 81 0 q ((up ι4 81 0 q r4) 81 0 q - 1))) (bq (bk0 K H))) := by
            intro x K2 hx _
            have hF : Fr (fun t i j => (t = 79 ∨ t = 80) ∧ j = q) ι1 (up (up ι1 80 0 q (ι1 79 0 q)) 79 0 q x) := ((Fr.refl _ _).u (by omega)).u (by omega)
            refine t7 _ _ _ (a1.fr hF (fun j => by omega) (by simp (disch := omega) only [up_s, up_k, up_j, up_i]; exact a1.1)) ((hC2.fr a2 (fun s _ => by omega) (by omega)).fr hF (fun s _ => by omega) (by omega)) (fun e ι2 b1 b2 => ?_) (fun e ι2 b1 b2 b3 => hh (by omega) ι2 b1 (by omega) (((a2.wide fun t i j q => by omega).trans (hF.wide fun t i j q => by omega)).trans (b3.wide fun t i j q => by omega)))
            rw [up_s, up_up]
            have hF2 : Fr (gK q) ι (up ι2 81 0 q (v - 1)) := (((a2.wide fun t i j q => by omega).trans (hF.wide fun t i j q => by omega)).trans (b2.wide fun t i j q => by omega)).u (by omega)
            refine ⟨by omega, by omega, by omega, by omega, h e _ (hR.fr hF2 (fun j => by omega) (by simp (disch := omega) only [up_s, up_k, up_j, up_i]; exact b1.1)) ⟨?_, ?_, ?_, by simp (disch := omega) only [up_s, up_k, up_j, up_i]⟩ hF2⟩
            · rw [up_k (by decide), b2 78 0 q (by omega), up_k (by decide), up_k (by decide)]; exact x2
            · rw [up_k (by decide), b2 79 0 q (by omega), up_s]; exact hx
            · rw [up_k (by decide), b2 80 0 q (by omega), up_k (by decide), up_s]; exact x3
          have hnx' : nxk kd k bf s = if (s : Int) = 0 then bf else if (s : Int) = 1 then (k + 1) % kd else s - 2 := rfl
          refine bif_i (fun c => ⟨by omega, by omega, by omega, by omega, ?_⟩) (fun c => bif_i (fun c3 => ⟨by omega, by omega, by omega, by omega, by omega, by omega, by omega, ?_⟩) (fun c3 => ⟨by omega, by omega, by omega, by omega, ?_⟩))
          · exact cont _ K (by rw [hnx', if_pos c]; exact x4) rfl
          · exact cont _ K (by rw [hnx', if_neg c, if_pos c3, x2, x3]) rfl
          · exact cont _ K (by rw [hnx', if_neg c, if_neg c3]) rfl
      · have hr1 : r1 = 1 ∧ p1 = lim := by omega
        refine ⟨p1, 1, k, bf, lf, by omega, i2, by omega, hW', ?_, ?_⟩
        · intro ι K H hR hK hC h
          obtain ⟨e2, e3, e4, e5⟩ := hK
          obtain ⟨hC1, hC2⟩ := hC hk2.1
          refine e_K_takeOne_0 (bif_t (by omega) (bif_t (by omega) (i5 ι _ _ _ hcap hR hC1 fun ι1 a1 a2 => ?_)))
          rw [hr1.1] at a1
          rw [if_neg hr]
          refine s_changeTo hk2 k2 hb (by omega) (by rw [a2 1 q 2 (by omega)]; exact e2) (by rw [a2 1 q 3 (by omega)]; exact e3) (by rw [a2 1 q 4 (by omega)]; exact e4) ?_
          refine s_count_err (by simp (disch := omega) only [up_s, up_k, up_j, up_i]; rw [a1.2.2.1]; omega) ⟨by simp (disch := omega) only [up_s, up_k, up_j, up_i]; omega, ?_⟩
          have hF : Fr (fK q) ι (up (up (up (up ι1 1 q 4 k) 1 q 3 (nxk kd k bf 0)) 1 q 5 (1 + 0)) 1 q 5 (up (up (up ι1 1 q 4 k) 1 q 3 (nxk kd k bf 0)) 1 q 5 (1 + 0) 1 q 5 - 1)) := ((((a2.wide fun t i j q => by omega).u (by omega)).u (by omega)).u (by omega)).u (by omega)
          exact h _ (hR.fr hF (fun j => by omega) (by simp (disch := omega) only [up_s, up_k, up_j, up_i]; exact a1.1) (by simp (disch := omega) only [up_s, up_k, up_j, up_i]; exact a1.2.2.1)) (fun e => by omega) (by rw [up_j (by decide), up_j (by decide), up_s]; omega) hF
        · intro ι K H hR hK hC h hh
          obtain ⟨e2, e3, e4, e5⟩ := hK
          obtain ⟨hC1, hC2⟩ := hC hk2.1
          have hcast : (((kd + 2).toNat : Nat) : Int) = ι 78 0 q + 2 := by rw [e2]; omega
          refine e_M_takeOne_0 ⟨by omega, bif_f (by omega) ⟨by omega, bif_t (by omega) ⟨by omega, by omega, by omega, ?_⟩⟩⟩
          rw [← hcast]
          exact i6 ι (14 * q) _ _ (by omega) (by omega) hR hC1 (fun e => absurd e hr) (fun _ ι1 a1 a2 a3 => hh (by omega) ι1 a1 (by omega) (a3.wide fun t i j q => by omega))
    · refine ⟨p, 0, k, bf, lf - 1, by omega, h1, Or.inl rfl, ⟨k1, k2, k3, by omega, by omega⟩, ?_, ?_⟩
      · intro ι K H hR hK hC h
        obtain ⟨e2, e3, e4, e5⟩ := hK
        have hF : Fr (fK q) ι (up ι 1 q 5 (ι 1 q 5 - 1)) := (Fr.refl _ _).u (by omega)
        refine e_K_takeOne_0 (bif_t (by omega) (bif_f (by omega) ⟨by omega, h _ (hR.fr hF (fun j => by omega) (by simp (disch := omega) only [up_s, up_k, up_j, up_i]; exact hR.1) (by simp (disch := omega) only [up_s, up_k, up_j, up_i]; exact hR.2.2.1)) (fun _ => ⟨by simp (disch := omega) only [up_s, up_k, up_j, up_i]; exact e2, by simp (disch := omega) only [up_s, up_k, up_j, up_i]; exact e3, by simp (disch := omega) only [up_s, up_k, up_j, up_i]; exact e4, by rw [up_s, e5]⟩) (by simp (disch := omega) only [up_s, up_k, up_j, up_i]; omega) hF⟩))
      · intro ι K H hR hK hC h hh
        obtain ⟨e2, e3, e4, e5⟩ := hK
        have hF : Fr (gK q) ι (up ι 81 0 q (ι 81 0 q - 1)) := (Fr.refl _ _).u (by omega)
        refine e_M_takeOne_0 ⟨by omega, bif_f (by omega) ⟨by omega, bif_f (by omega) ⟨by omega, by omega, by omega, h rfl _ (hR.fr hF (fun j => by omega) (by simp (disch := omega) only [up_s, up_k, up_j, up_i]; exact hR.1)) ⟨by simp (disch := omega) only [up_s, up_k, up_j, up_i]; exact e2, by simp (disch := omega) only [up_s, up_k, up_j, up_i]; exact e3, by simp (disch := omega) only [up_s, up_k, up_j, up_i]; exact e4, by rw [up_s, e5]⟩ hF⟩⟩⟩
end Take
