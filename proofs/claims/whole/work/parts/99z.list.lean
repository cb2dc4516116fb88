/-! pack: comp adds commands; the list of them -/
section List
variable {sc : bm_Sc} {ι : bm_S} {H : Nat × Int → bm_S → Prop} {K : bm_S → Prop} {A : Int → Int → Int} {rg : Int → Int} {m : Int} {T : Int → Int} {N : Int} {g c : Int → Int}
theorem CmC.add {a0 a1 a2 a3 a4 a5 a6 : Int} (h : CmC ι m A rg) : CmC (up (up (up (up (up (up (up ι 55 0 m a0) 56 0 m a1) 57 0 m a2) 58 0 m a3) 59 0 m a4) 60 0 m a5) 9 0 4 (m + 1)) (m + 1) (adA A m a0 a1 a2 a3 a4 a5 a6) rg := by
  have q := adA_0 (A := A) (m := m) (a0 := a0) (a1 := a1) (a2 := a2) (a3 := a3) (a4 := a4) (a5 := a5) (a6 := a6)
  refine ⟨by simp (disch := omega) only [up_s, up_k, up_j, up_i], fun k k0 k1 => ?_, fun i x y => by simp (disch := omega) only [up_s, up_k, up_j, up_i]; exact h.2.2 i x y⟩
  by_cases z : k = m
  · rw [z, q.1, q.2.1, q.2.2.1, q.2.2.2.1, q.2.2.2.2.1, q.2.2.2.2.2.1]
    refine ⟨by simp (disch := omega) only [up_s, up_k, up_j, up_i], by simp (disch := omega) only [up_s, up_k, up_j, up_i], by simp (disch := omega) only [up_s, up_k, up_j, up_i], by simp (disch := omega) only [up_s, up_k, up_j, up_i], by simp (disch := omega) only [up_s, up_k, up_j, up_i], by simp (disch := omega) only [up_s, up_k, up_j, up_i]⟩
  · rw [adA_n z, adA_n z, adA_n z, adA_n z, adA_n z, adA_n z]
    have h2 := h.2.1 k k0 (by omega)
    refine ⟨by simp (disch := omega) only [up_s, up_k, up_j, up_i]; exact h2.1, by simp (disch := omega) only [up_s, up_k, up_j, up_i]; exact h2.2.1, by simp (disch := omega) only [up_s, up_k, up_j, up_i]; exact h2.2.2.1, by simp (disch := omega) only [up_s, up_k, up_j, up_i]; exact h2.2.2.2.1, by simp (disch := omega) only [up_s, up_k, up_j, up_i]; exact h2.2.2.2.2.1, by simp (disch := omega) only [up_s, up_k, up_j, up_i]; exact h2.2.2.2.2.2⟩
theorem F_addC {a0 a1 a2 a3 a4 a5 : Int} : Fr fCm ι (up (up (up (up (up (up (up ι 55 0 m a0) 56 0 m a1) 57 0 m a2) 58 0 m a3) 59 0 m a4) 60 0 m a5) 9 0 4 (m + 1)) := (((((((Fr.refl _ _).u (by omega)).u (by omega)).u (by omega)).u (by omega)).u (by omega)).u (by omega)).u (by omega)
theorem s_ringP {d : Int} (hC : CmC ι m A rg) (h : ∀ ι' : bm_S, CmC ι' m A (rp rg d) → Fr fCm ι ι' → K ι') : bC sc 143 [br 63 0, bi d] ι (bk0 K H) := by
  obtain ⟨a1, a2, a4⟩ := hC
  refine e_X_comeToRing_63_0 ?_
  rw [a4 0 (by omega) (by omega), a4 1 (by omega) (by omega), a4 2 (by omega) (by omega)]
  have hF : Fr (fun t i j => t = 63) ι (up (up (up (up ι 63 0 3 (rg 2)) 63 0 2 (rg 1)) 63 0 1 (rg 0)) 63 0 0 d) := ((((Fr.refl _ _).u rfl).u rfl).u rfl).u rfl
  refine ⟨by omega, by omega, by omega, by omega, by omega, by omega, by omega, h _ ⟨by rw [hF 9 0 4 (by omega)]; exact a1, fun k x y => ?_, fun i x y => ?_⟩ (hF.wide fun t i j q => by omega)⟩
  · have := a2 k x y
    rw [hF 55 0 _ (by omega), hF 56 0 _ (by omega), hF 57 0 _ (by omega), hF 58 0 _ (by omega), hF 59 0 _ (by omega), hF 60 0 _ (by omega)]
    exact this
  · have : i = 0 ∨ i = 1 ∨ i = 2 ∨ i = 3 := by omega
    rcases this with rfl | rfl | rfl | rfl
    · simp (disch := omega) only [up_s, up_k, up_j, up_i]; rfl
    · simp (disch := omega) only [up_s, up_k, up_j, up_i]; rfl
    · simp (disch := omega) only [up_s, up_k, up_j, up_i]; rfl
    · simp (disch := omega) only [up_s, up_k, up_j, up_i]; rfl
theorem s_addCmd {x1 x2 d p lv X6 : Int} (hm : 0 ≤ m ∧ m < 501) (hp : 0 ≤ p ∧ p < 2000) (hd : 1 ≤ d ∧ d + 3 < 4096) (hC : CmC ι m A rg) (hQ : CQ ι T N g c p) (h61 : ι 61 0 p = wy lv (cf T N) (wdM T N g c) N p) (h : ∀ ι' : bm_S, CmC ι' (m + 1) (adA A m x1 x2 d (csg (cod ia x1 24) (cod ya x2 24) (sgn rg d)) (if 128 ≤ csg (cod ia x1 24) (cod ya x2 24) (sgn rg d) then sgn rg d else -1) (mk lv (cf T N) (wdM T N g c) N p) X6) (if wy lv (cf T N) (wdM T N g c) N p = 1 ∧ sgn rg d ≠ 0 then rp rg d else rg) → Fr fCm ι ι' → K ι') : bC sc 102 [br 9 0, bi x1, bi x2, bi d, bi p] ι (bk0 K H) := by
  have ha := cod24 ia x1
  have hb := cod24 ya x2
  obtain ⟨S, hS⟩ : ∃ S, S = csg (cod ia x1 24) (cod ya x2 24) (sgn rg d) := ⟨_, rfl⟩
  obtain ⟨MK, hMK⟩ : ∃ MK, MK = mk lv (cf T N) (wdM T N g c) N p := ⟨_, rfl⟩
  rw [← hS, ← hMK] at h
  refine e_P_addCommand_0 (bif_t (by rw [hC.1]; exact hm.2) (s_distSign hd hC.2.2 ?_))
  rw [hC.1]
  refine ⟨by omega, by omega, by omega, s_codeOf200 (s_codeOf201 (s_cmdSign ha hb ?_))⟩
  rw [← hS]
  simp (disch := omega) only [up_s, up_k, up_j, hC.1]
  have tail : ∀ BS : Int, BS = (if 128 ≤ S then sgn rg d else -1) → bC sc 99 [br 9 0, bi p] (up (up (up (up (up ι 55 0 m x1) 56 0 m x2) 57 0 m d) 58 0 m S) 59 0 m BS) (bk1 (fun r5 ι5 => (0 ≤ m ∧ m < (501 : Int)) ∧ (bm_rg (ι5 9 0 4 + 1)) ∧ (0 ≤ p ∧ p < (2000 : Int)) ∧ (if ι5 61 0 p = (1 : Int) then (if sgn rg d = (0 : Int) then K (up (up ι5 60 0 m r5) 9 0 4 (ι5 9 0 4 + 1)) else bC sc 143 [br 63 0, bi d] (up (up ι5 60 0 m r5) 9 0 4 (ι5 9 0 4 + 1)) (bk0 K H)) else K (up (up ι5 60 0 m r5) 9 0 4 (ι5 9 0 4 + 1)))) H) := fun BS eB => by
    have F5 : Fr (fun t i j => 55 ≤ t ∧ t ≤ 59) ι (up (up (up (up (up ι 55 0 m x1) 56 0 m x2) 57 0 m d) 58 0 m S) 59 0 m BS) := (((((Fr.refl _ _).u (by omega)).u (by omega)).u (by omega)).u (by omega)).u (by omega)
    refine s_makesAt (lv := lv) hp (hQ.fr F5 (by omega)) (by rw [F5 61 0 p (by omega)]; exact h61) ?_
    rw [F5 9 0 4 (by omega), hC.1, F5 61 0 p (by omega), h61, ← hMK]
    have A1 : CmC (up (up (up (up (up (up (up ι 55 0 m x1) 56 0 m x2) 57 0 m d) 58 0 m S) 59 0 m BS) 60 0 m MK) 9 0 4 (m + 1)) (m + 1) (adA A m x1 x2 d S BS MK X6) rg := hC.add
    rw [← eB] at h
    refine ⟨hm, by omega, hp, bif_i (fun z => bif_i (fun z1 => ?_) (fun z1 => ?_)) (fun z => ?_)⟩
    · rw [if_neg (fun w => w.2 z1)] at h; exact h _ A1 F_addC
    · rw [if_pos ⟨z, z1⟩] at h; exact s_ringP A1 (fun ι' w F => h ι' w (F_addC.trans F))
    · rw [if_neg (fun w => z w.1)] at h; exact h _ A1 F_addC
  refine ⟨by omega, by omega, bif_i (fun z => ⟨by omega, tail _ (by rw [if_pos z])⟩) (fun z => ⟨by omega, tail _ (by rw [if_neg z])⟩)⟩
end List
