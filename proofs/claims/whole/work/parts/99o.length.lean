/-! length: a pair -/
section Length
variable {sc : bm_Sc} {ι : bm_S} {Rest : bm_S → Prop}
theorem p_length {x y z : Int} (hR : ∀ ι ι' : bm_S, Fr sf ι ι' → Rest ι → Rest ι') (hJ : Jn Rest ι) (hJo : Jo ι) : Pair sc 138 231 [bi x, bi y, bi z] ι (Jn Rest) := by
  have fin := J_up hR hJ
  obtain ⟨-, rg, PA, pc, tl, cm, has, W, -, -, -, -, -, -, -, hD, hDm, hT⟩ := hJo
  by_cases hh : has = 0
  · exact e_X_length_0 (bif_t (by rw [hD.2.2.1]; exact hh) (e_M_length_0 (bif_t (by rw [hDm.1]; exact hh) (e_M_length_24 ⟨rfl, fin⟩))))
  have hh1 : has = 1 := by have := hT.2.1; omega
  have htl : tl = 0 ∨ tl = 1 := by have := hT.1; omega
  have hO := hT.2.2 hh1
  have hC := hD.2.2.2 hh1
  have hM := hDm.2 hh1
  have n33 : ¬ ι 13 0 33 = 0 := by rw [hDm.1]; exact hh
  have n5 : ¬ ι 8 0 5 = 0 := by rw [hD.2.2.1]; exact hh
  have hp2 := p2_3 hO.2.1
  have hpf := hO.2.1
  have hdr := hO.2.2.1
  have hWa : ((Wa W : Nat) : Int) = 16 + W 5 0 1 + 48 * bm_p2 (W 5 0 0) := by unfold Wa; omega
  have k0 := hO.2.2.2.1
  have k1 := (hO.1 1 (by omega) (by omega)).1
  have k2 := hO.2.2.2.2.1
  obtain ⟨o0, o1, o2⟩ := hO.2.2.2.2.2.2.2.2
  obtain ⟨q0, q1, q2⟩ := hC.2.2.2.2.2.2.2.2
  have e43 := hC.1 1 (by omega) (by omega)
  have e44 := hC.2.2.2.1
  have e45 := hC.2.2.2.2.1
  have f35 := hM.1
  have f36 := hM.2.1
  have f37 := hM.2.2.1
  have f85 := hM.2.2.2.1 1 (by omega) (by omega)
  obtain ⟨u0, u1, u2⟩ := hM.2.2.2.2.2.2
  -- how many codes, how many signs
  obtain ⟨n, hn⟩ : ∃ n, n = (if x = 0 then W 5 0 2 else if x = 1 then W 0 1 0 else W 5 0 3) := ⟨_, rfl⟩
  obtain ⟨a, ha⟩ : ∃ a : Int, a = (if x = 0 then 256 else if x = 1 then 704 else (Wa W : Int)) := ⟨_, rfl⟩
  have hn12 : 1 ≤ n ∧ n ≤ 12 := by rw [hn]; grind
  have ha7 : 0 ≤ a ∧ a ≤ 704 := by rw [ha]; split; · omega
                                   · split <;> omega
  have bad : (x < 0 ∨ 2 < x ∨ y < 0 ∨ n ≤ y ∨ z < 0 ∨ a ≤ z) → bC sc 231 [br 13 0, bi x, bi y, bi z] ι (bk1 (fun r2 ι2 => (-1 : Int) = r2 ∧ Jn Rest ι2) (fun _ _ => False)) := fun h => by
    refine e_M_length_0 (bif_f n33 (bif_i (fun _ => e_M_length_24 ⟨rfl, fin⟩) (fun c1 => ?_)))
    have c1 : 0 ≤ x ∧ x ≤ 2 := by grind
    rw [f35, f36, f37, f85]
    by_cases x0 : x = 0
    · rw [if_pos x0] at hn ha
      refine bif_t x0 (bif_t x0 ⟨by omega, bif_i (fun _ => e_M_length_112 ⟨rfl, fin⟩) (fun c2 => ⟨by omega, bif_i (fun _ => e_M_length_112 ⟨rfl, fin⟩) (fun c3 => ?_)⟩)⟩)
      exfalso; grind
    · rw [if_neg x0] at hn ha
      by_cases x1 : x = 1
      · rw [if_pos x1] at hn ha
        refine bif_f x0 (bif_t x1 ⟨by omega, bif_f x0 (bif_t x1 ⟨by omega, bif_i (fun _ => e_M_length_112 ⟨rfl, fin⟩) (fun c2 => ⟨by omega, bif_i (fun _ => e_M_length_112 ⟨rfl, fin⟩) (fun c3 => ?_)⟩)⟩)⟩)
        exfalso; grind
      · rw [if_neg x1] at hn ha
        refine bif_f x0 (bif_f x1 (bif_f x0 (bif_f x1 ⟨by omega, bif_i (fun _ => e_M_length_112 ⟨rfl, fin⟩) (fun c2 => ⟨by omega, bif_i (fun _ => e_M_length_112 ⟨rfl, fin⟩) (fun c3 => ?_)⟩)⟩)))
        exfalso; grind
  -- comp up to the code
  have goC : (0 ≤ x → x ≤ 2 → 0 ≤ y → y < n → 0 ≤ z → z < a → bC sc 24 [br 3 (36 * tl + 3 * y + x), bi z] ι (bk1 (fun r1 ι1 => bC sc 231 [br 13 0, bi x, bi y, bi z] ι1 (bk1 (fun r2 ι2 => r1 = r2 ∧ Jn Rest ι2) (fun _ _ => False))) (fun _ _ => False))) → Pair sc 138 231 [bi x, bi y, bi z] ι (Jn Rest) := fun h => by
    refine e_X_length_0 (bif_f n5 (bif_i (fun c => bad (by omega)) (fun c => bif_i (fun c1 => bad (by omega)) (fun c1 => bif_i (fun c2 => bad (by omega)) (fun c2 => ⟨rfl, ?_⟩)))))
    rw [hD.1]
    have step : (if y < n then (if z < (0 : Int) then bC sc 231 [br 13 0, bi x, bi y, bi z] ι (bk1 (fun r2 ι2 => (-1 : Int) = r2 ∧ Jn Rest ι2) (fun _ _ => False)) else ((0 : Int) = 0) ∧ bC sc 66 [br 7 (ι 8 0 4), bi x] ι (bk1 (fun r2 ι2 => (if z < r2 then ((0 : Int) = 0) ∧ bC sc 67 [br 7 (ι2 8 0 4), bi x, bi y] ι2 (bk3 (fun r3 ι3 => bC sc 24 [br 3 r3, bi z] ι3 (bk1 (fun r1 ι1 => bC sc 231 [br 13 0, bi x, bi y, bi z] ι1 (bk1 (fun r2 ι2 => r1 = r2 ∧ Jn Rest ι2) (fun _ _ => False))) (fun _ _ => False))) (fun _ _ => False)) else bC sc 231 [br 13 0, bi x, bi y, bi z] ι2 (bk1 (fun r2 ι2 => (-1 : Int) = r2 ∧ Jn Rest ι2) (fun _ _ => False)))) (fun _ _ => False))) else bC sc 231 [br 13 0, bi x, bi y, bi z] ι (bk1 (fun r2 ι2 => (-1 : Int) = r2 ∧ Jn Rest ι2) (fun _ _ => False))) := by
      refine bif_i (fun c3 => bif_i (fun c4 => bad (by omega)) (fun c4 => ⟨rfl, ?_⟩)) (fun c3 => bad (by omega))
      rw [hD.1]
      have code : z < a → bC sc 67 [br 7 tl, bi x, bi y] ι (bk3 (fun r3 ι3 => bC sc 24 [br 3 r3, bi z] ι3 (bk1 (fun r1 ι1 => bC sc 231 [br 13 0, bi x, bi y, bi z] ι1 (bk1 (fun r2 ι2 => r1 = r2 ∧ Jn Rest ι2) (fun _ _ => False))) (fun _ _ => False))) (fun _ _ => False)) := fun c5 => by
        have h := h (by omega) (by omega) (by omega) c3 (by omega) c5
        have em : min (max y 0) 11 = y := by omega
        refine e_L_code_0 (bif_i (fun x0 => ⟨⟨by omega, by omega, by omega⟩, rfl, ?_⟩) (fun x0 => bif_i (fun x1 => ⟨⟨by omega, by omega, by omega⟩, rfl, ?_⟩) (fun x1 => ⟨⟨by omega, by omega, by omega⟩, rfl, ?_⟩)))
        · rw [em]; rw [show 36 * tl + 3 * y + x = 36 * tl + 3 * y by omega] at h; exact h
        · rw [em]; rw [show 36 * tl + 3 * y + x = 36 * tl + 3 * y + 1 by omega] at h; exact h
        · rw [em]; rw [show 36 * tl + 3 * y + x = 36 * tl + 3 * y + 2 by omega] at h; exact h
      have fin2 : ∀ v : Int, v = a → (if z < v then ((0 : Int) = 0) ∧ bC sc 67 [br 7 (ι 8 0 4), bi x, bi y] ι (bk3 (fun r3 ι3 => bC sc 24 [br 3 r3, bi z] ι3 (bk1 (fun r1 ι1 => bC sc 231 [br 13 0, bi x, bi y, bi z] ι1 (bk1 (fun r2 ι2 => r1 = r2 ∧ Jn Rest ι2) (fun _ _ => False))) (fun _ _ => False))) (fun _ _ => False)) else bC sc 231 [br 13 0, bi x, bi y, bi z] ι (bk1 (fun r2 ι2 => (-1 : Int) = r2 ∧ Jn Rest ι2) (fun _ _ => False))) := fun v hv => by
        rw [hv, hD.1]
        exact bif_i (fun c5 => ⟨rfl, code c5⟩) (fun c5 => bad (by omega))
      refine e_L_signsOf_0 (bif_i (fun x0 => fin2 _ (by rw [ha, if_pos x0])) (fun x0 => bif_i (fun x1 => fin2 _ (by rw [ha, if_neg x0, if_pos x1])) (fun x1 => ?_)))
      rw [hC.2.1, hC.2.2.1]
      exact ⟨by omega, ⟨by omega, by omega⟩, by omega, fin2 _ (by rw [ha, if_neg x0, if_neg x1, hWa])⟩
    refine e_L_codesOf_0 (bif_i (fun x1 => ⟨by omega, ?_⟩) (fun x1 => ⟨by omega, by omega, ?_⟩))
    · rw [e43]
      rw [if_neg (by omega), if_pos x1] at hn
      rw [← hn]
      exact step
    · by_cases x0 : x = 0
      · rw [show x / 2 = 0 by omega, e44]
        rw [if_pos x0] at hn
        rw [← hn]
        exact step
      · rw [show x / 2 = 1 by omega, e45]
        rw [if_neg x0, if_neg x1] at hn
        rw [← hn]
        exact step
  refine goC (fun x0 x2 y0 y1 z0 z1 => ?_)
  obtain ⟨w, rfl⟩ := Int.eq_ofNat_of_zero_le z0
  by_cases c0 : x = 0
  · rw [if_pos c0] at hn ha
    rw [hn] at y1
    refine s_lenOf (a := 256) (L := W 10 y) (lo := W 9 0 y) (by rw [c0]; exact q0 y y0 y1) (o0 y y0 y1).1 (o0 y y0 y1).2 (by omega) (by rw [L22 (by omega), if_pos (by omega)]; omega) (by omega) ?_
    refine e_M_length_0 (bif_f n33 (bif_f (by rw [if_pos (by omega)]; omega) (bif_t c0 (bif_t c0 ?_))))
    rw [f35]
    exact ⟨by omega, bif_f (by rw [if_pos (by omega)]; omega) ⟨by omega, bif_f (by rw [if_pos (by omega)]; omega) (bif_t c0 ⟨by omega, by omega, by omega, by omega, (u0 y w y0 y1 (by omega) (by omega)).symm, fin⟩)⟩⟩
  · rw [if_neg c0] at hn ha
    by_cases c1 : x = 1
    · rw [if_pos c1] at hn ha
      rw [hn] at y1
      refine s_lenOf (a := 704) (L := W 11 y) (lo := W 9 1 y) (by rw [c1]; exact q1 y y0 y1) (o1 y y0 y1).1 (o1 y y0 y1).2 (by omega) (by rw [L22 (by omega), if_neg (by omega), if_pos (by omega)]; omega) (by omega) ?_
      refine e_M_length_0 (bif_f n33 (bif_f (by rw [if_pos (by omega)]; omega) (bif_f c0 (bif_t c1 ?_))))
      rw [f85]
      exact ⟨by omega, bif_f c0 (bif_t c1 ⟨by omega, bif_f (by rw [if_pos (by omega)]; omega) ⟨by omega, bif_f (by rw [if_pos (by omega)]; omega) (bif_f c0 (bif_t c1 ⟨by omega, by omega, by omega, by omega, (u1 y w y0 y1 (by omega) (by omega)).symm, fin⟩))⟩⟩)⟩
    · rw [if_neg c1] at hn ha
      rw [hn] at y1
      have c2 : x = 2 := by omega
      refine s_lenOf (a := Wa W) (L := W 12 y) (lo := W 9 2 y) (by rw [c2]; exact q2 y y0 y1) (o2 y y0 y1).1 (o2 y y0 y1).2 (by omega) (by rw [L22 (by omega), if_neg (by omega), if_neg (by omega)]; omega) (by omega) ?_
      refine e_M_length_0 (bif_f n33 (bif_f (by rw [if_pos (by omega)]; omega) (bif_f c0 (bif_f c1 (bif_f c0 (bif_f c1 ?_))))))
      rw [f36, f37]
      exact ⟨by omega, bif_f (by rw [if_pos (by omega)]; omega) ⟨by omega, bif_f (by rw [if_pos (by omega)]; omega) (bif_f c0 (bif_f c1 ⟨by omega, by omega, by omega, by omega, (u2 y w y0 y1 (by omega) (by omega)).symm, fin⟩))⟩⟩
end Length
