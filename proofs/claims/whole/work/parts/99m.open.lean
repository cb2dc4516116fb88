/-! open, and what tells of it: pairs -/
section Open
variable {sc : bm_Sc}
def Jo (ι : bm_S) : Prop := ι 0 0 1 = ι 13 0 20 ∧ ∃ (rg PA : Int → Int) (pc tl cm has : Int) (W : bm_S), (∀ i, 0 ≤ i → i < 4 → ι 51 0 i = rg i) ∧ (∀ i, 0 ≤ i → i < 4 → ι 77 0 (3 - i) = rg i) ∧ PaC ι PA ∧ PaM ι PA ∧ ι 8 0 3 = pc ∧ ι 13 0 19 = pc ∧ 0 ≤ pc ∧ TD ι tl cm has W ∧ TDm ι has W ∧ TV tl cm has W
abbrev oF (t : Nat) (_ j : Int) : Prop := t ≤ 4 ∨ 7 ≤ t ∧ t ≤ 8 ∨ t = 12 ∨ t = 13 ∧ j < 43 ∨ 20 ≤ t ∧ t ≤ 25 ∨ 43 ≤ t ∧ t ≤ 47 ∨ 51 ≤ t ∧ t ≤ 53 ∨ 66 ≤ t ∧ t ≤ 89
theorem oF_f (t : Nat) (i j : Int) (h : fAl t i j) : oF t i j := by
  rcases h with ((h | h | h | h | h | h | h | h | h | h) | h) | h <;> omega
theorem oF_g (t : Nat) (i j : Int) (h : gOp t i j) : oF t i j := by
  rcases h with (h | h | h | h | h) | h <;> omega
theorem m_tape7 {Q : bm_O → bm_S → Prop} {n : Int} {T : Int → Int} {v2 : bm_V} (hn : n ≤ 2400) : ∀ (m : Nat) (x : Int) (ι : bm_S), x = n - m → 0 ≤ x → ι 13 0 3 = n → (∀ k, 0 ≤ k → k < x → ι 74 0 k = T k) → (∀ k, 0 ≤ k → k < n → ι 66 0 k = T k ∧ -128 ≤ T k ∧ T k < 128) → (∀ ι' : bm_S, (∀ k, 0 ≤ k → k < n → ι' 74 0 k = T k) → Fr (fun t _ _ => t = 74) ι ι' → bW sc 224 7 [br 13 0, bi n, v2] [] ι' Q) → bW sc 224 7 [br 13 0, bi x, v2] [] ι Q
  | 0, x, ι, hx, h0, h3, a, b, h => by
    have := h ι (fun k x y => a k x (by omega)) (Fr.refl _ _)
    rw [show x = n by omega]; exact this
  | m + 1, x, ι, hx, h0, h3, a, b, h => by
    have b1 := b x h0 (by omega)
    refine e_M_open_7 (bif_f (by omega) ⟨by omega, by omega, by omega, ?_⟩)
    rw [b1.1, by_id b1.2]
    have F0 : Fr (fun t _ _ => t = 74) ι (up ι 74 0 x (T x)) := (Fr.refl _ _).u rfl
    refine m_tape7 hn m (x + 1) _ (by omega) (by omega) (by simp (disch := omega) only [up_s, up_k, up_j, up_i]; exact h3) (fun k y z => ?_) (fun k y z => by simp (disch := omega) only [up_s, up_k, up_j, up_i]; exact b k y z) (fun ι' y z => h ι' y (F0.trans z))
    rw [up_at]
    by_cases c : k = x
    · rw [if_pos c, c]
    · rw [if_neg c]; exact a k y (by omega)
theorem bt01 (f : Int → Int) (p : Int) : bt f p = 0 ∨ bt f p = 1 := by unfold bt; omega
theorem p_open {ι : bm_S} {Rp : bm_S → Prop} (hRp : ∀ ι ι' : bm_S, Fr oF ι ι' → Rp ι → Rp ι') (hJ : Jn (fun ι => Jo ι ∧ Rp ι) ι) : Pair sc 131 224 [] ι (Jn (fun ι => Jo ι ∧ Rp ι)) := by
  obtain ⟨hJt, hJm, hJw, ⟨hread, rg, PA, pc, tl, cm, has, W, g51, g77, hPC, hPM, h3, h19, hpc, hD, hDm, hT⟩, hp⟩ := hJ
  obtain ⟨t1, t2, t3', t4⟩ := hJt
  obtain ⟨m1, m2, m3⟩ := hJm
  obtain ⟨lim, hlim⟩ : ∃ lim, lim = 8 * ι 2 0 1 := ⟨_, rfl⟩
  obtain ⟨β, hβ⟩ : ∃ β : Int → Int, β = fun q => bt (ι 20 0) q := ⟨_, rfl⟩
  have hw : wfβ β lim := ⟨fun q => by rw [hβ]; exact bt01 _ _, by omega, by omega, by omega⟩
  obtain ⟨p', r, s', f', rg', PA', pc', tl', cm', has', W', k1, k2, k3, k4, k5, k6, k7⟩ := j_all (sc := sc) (g := ι 68 0) (c := ι 69 0) (PA := PA) (tl := tl) (cm := cm) hw (fun k x y => (hJw.1 k x y).2) (fun n x y => (hJw.2 n x y).2) hT.1
  refine e_X_open_0 (k6 ι _ _ hlim.symm (fun q x y => by rw [hβ]) (by rw [← m2] at m1; omega) hPC hD.1 hD.2.1 (fun k x y => (hJw.1 k x y).1) (fun k x y => (hJw.2 k x y).1) hJw (fun ι1 z => ?_))
  obtain ⟨z1, z2, z3, z4, z5, z6, z7, F1⟩ := z
  have F1' := F1.wide oF_f
  have e201 : ι1 2 0 1 = ι 2 0 1 := F1 2 0 1 (by decide)
  refine s_cut (s := ι 2 0 1) (b := ι1 2 0 2) (f := ι1 20 0) (Or.inl rfl) ⟨e201, rfl, fun _ _ _ => rfl⟩ (by rw [L20_0]; exact t1) (fun ι2 hB hF => ?_)
  have F2 := hF.fr
  have F12 : Fr oF ι ι2 := F1'.trans (F2.wide fun t i j q => by omega)
  -- the other
  have n66 : ∀ k, ι2 66 0 k = ι 66 0 k := fun k => by rw [F2 66 0 k (by omega), F1 66 0 k (by rintro ((q | q | q | q | q | q | q | q | q | q) | q) <;> omega)]
  have n13 : ∀ j, ι2 13 0 j = ι 13 0 j := fun j => by rw [F2 13 0 j (by omega), F1 13 0 j (by rintro ((q | q | q | q | q | q | q | q | q | q) | q) <;> omega)]
  have n76 : ∀ j, ι2 76 0 j = ι 76 0 j := fun j => by rw [F2 76 0 j (by omega), F1 76 0 j (by rintro ((q | q | q | q | q | q | q | q | q | q) | q) <;> omega)]
  have n68 : ∀ j, ι2 68 0 j = ι 68 0 j := fun j => by rw [F2 68 0 j (by omega), F1 68 0 j (by rintro ((q | q | q | q | q | q | q | q | q | q) | q) <;> omega)]
  have n69 : ∀ j, ι2 69 0 j = ι 69 0 j := fun j => by rw [F2 69 0 j (by omega), F1 69 0 j (by rintro ((q | q | q | q | q | q | q | q | q | q) | q) <;> omega)]
  have n64 : ∀ j, ι2 64 0 j = ι 64 0 j := fun j => by rw [F2 64 0 j (by omega), F1 64 0 j (by rintro ((q | q | q | q | q | q | q | q | q | q) | q) <;> omega)]
  have n65 : ∀ j, ι2 65 0 j = ι 65 0 j := fun j => by rw [F2 65 0 j (by omega), F1 65 0 j (by rintro ((q | q | q | q | q | q | q | q | q | q) | q) <;> omega)]
  refine e_M_open_0 ?_
  have F3 : Fr oF ι2 (up ι2 13 0 0 0) := (Fr.refl _ _).u (by omega)
  refine m_tape7 (n := ι 2 0 1) (T := ι 66 0) t1.2 (ι 2 0 1).toNat 0 _ (by omega) (by omega) (by simp (disch := omega) only [up_s, up_k, up_j, up_i]; rw [n13]; exact t2) (fun k x y => by omega) (fun k x y => ⟨by simp (disch := omega) only [up_s, up_k, up_j, up_i]; exact n66 k, (t3' k x y).2⟩) (fun ι4 b1 F4 => ?_)
  have e3 : ι4 13 0 3 = ι 2 0 1 := by rw [F4 13 0 3 (by omega)]; simp (disch := omega) only [up_s, up_k, up_j, up_i]; rw [n13]; exact t2
  refine e_M_open_7 (bif_t (by omega) (m_emptyTape ⟨by omega, e_M_ringAtFirst_0 ⟨by omega, by omega, by omega, by omega, ?_⟩⟩))
  rw [e3]
  obtain ⟨ι5, h5⟩ : ∃ ι5, ι5 = up (up (up (up (up (up (up (up (up (up (up ι4 13 0 15 (ι 2 0 1)) 13 0 3 0) 13 0 4 (-1)) 13 0 16 0) 13 0 6 0) 13 0 19 0) 13 0 33 0) 77 0 0 16) 77 0 1 15) 77 0 2 11) 77 0 3 4 := ⟨_, rfl⟩
  have F5 : Fr (fun t i j => t = 77 ∨ t = 13 ∧ (j = 3 ∨ j = 4 ∨ j = 6 ∨ j = 15 ∨ j = 16 ∨ j = 19 ∨ j = 33)) ι4 ι5 := by
    rw [h5]
    exact ((((((((((((Fr.refl _ _).u (by omega)).u (by omega)).u (by omega)).u (by omega)).u (by omega)).u (by omega)).u (by omega)).u (by omega)).u (by omega)).u (by omega)).u (by omega))
  have F25 : Fr (fun t i j => t = 74 ∨ t = 77 ∨ t = 13 ∧ (j = 0 ∨ j = 3 ∨ j = 4 ∨ j = 6 ∨ j = 15 ∨ j = 16 ∨ j = 19 ∨ j = 33)) ι2 ι5 := (((Fr.refl _ _).u (by omega)).trans (F4.wide fun t i j q => by omega)).trans (F5.wide fun t i j q => by omega)
  have F25o : Fr oF ι2 ι5 := F25.wide fun t i j q => by omega
  have c3 : ι5 13 0 3 = 0 := by rw [h5]; simp (disch := omega) only [up_s, up_k, up_j, up_i]
  have c4 : ι5 13 0 4 = -1 := by rw [h5]; simp (disch := omega) only [up_s, up_k, up_j, up_i]
  have c6 : ι5 13 0 6 = 0 := by rw [h5]; simp (disch := omega) only [up_s, up_k, up_j, up_i]
  have c15 : ι5 13 0 15 = ι 2 0 1 := by rw [h5]; simp (disch := omega) only [up_s, up_k, up_j, up_i]
  have c16 : ι5 13 0 16 = 0 := by rw [h5]; simp (disch := omega) only [up_s, up_k, up_j, up_i]
  have c19 : ι5 13 0 19 = 0 := by rw [h5]; simp (disch := omega) only [up_s, up_k, up_j, up_i]
  have c33 : ι5 13 0 33 = 0 := by rw [h5]; simp (disch := omega) only [up_s, up_k, up_j, up_i]
  have c77 : ∀ i, 0 ≤ i → i < 4 → ι5 77 0 (3 - i) = rg0 i := fun i x y => by
    have : i = 0 ∨ i = 1 ∨ i = 2 ∨ i = 3 := by omega
    rw [h5]
    rcases this with rfl | rfl | rfl | rfl
    · rw [show (3 - 0 : Int) = 3 by omega]; simp (disch := omega) only [up_s, up_k, up_j, up_i]; rfl
    · rw [show (3 - 1 : Int) = 2 by omega]; simp (disch := omega) only [up_s, up_k, up_j, up_i]; rfl
    · rw [show (3 - 2 : Int) = 1 by omega]; simp (disch := omega) only [up_s, up_k, up_j, up_i]; rfl
    · rw [show (3 - 3 : Int) = 0 by omega]; simp (disch := omega) only [up_s, up_k, up_j, up_i]; rfl
  rw [← h5]
  have R5 : mR ι5 β lim 0 := ⟨c16, by rw [c15]; exact hlim.symm, fun q x y => by
    rw [hβ]
    show bt (ι5 74 0) q = bt (ι 20 0) q
    unfold bt
    have e1 : ι5 74 0 (q / 8) = ι 66 0 (q / 8) := by rw [F5 74 0 _ (by omega)]; exact b1 _ (by omega) (by omega)
    rw [e1, (t3' (q / 8) (by omega) (by omega)).1]⟩
  -- the end of both
  have fin : ∀ (ι6 : bm_S) (n : Int), Fr gOp ι5 ι6 → ι6 13 0 16 = p' → n = (if r = 0 then s' else 0) → (r = 0 → ∀ k, 0 ≤ k → k < s' → ι6 67 0 k = f' k) → EM ι6 rg' PA' → ι6 13 0 19 = pc' → TDm ι6 has' W' → Jn (fun ι => Jo ι ∧ Rp ι) (up (up ι6 13 0 6 n) 13 0 20 p') := by
    intro ι6 n F6 q16 qn q67 qE q19 qD
    obtain ⟨ι7, h7⟩ : ∃ ι7, ι7 = up (up ι6 13 0 6 n) 13 0 20 p' := ⟨_, rfl⟩
    rw [← h7]
    have F7 : Fr (fun t i j => t = 13 ∧ (j = 6 ∨ j = 20)) ι6 ι7 := by rw [h7]; exact ((Fr.refl _ _).u (by omega)).u (by omega)
    have FA' : Fr oF ι ι7 := ((F12.trans F25o).trans (F6.wide oF_g)).trans (F7.wide fun t i j q => by omega)
    -- comp's part stays as it is
    have fc : ∀ (t : Nat) (i j : Int), t ≠ 12 → t ≠ 13 → ¬ (67 ≤ t ∧ t ≤ 89) → ι7 t i j = ι2 t i j := fun t i j q1 q2 q3 => by
      rw [F7 t i j (by omega), F6 t i j (by rintro ((q | q | q | q | q) | q) <;> omega), F25 t i j (by omega)]
    have fm : ∀ (j : Int), ι7 68 0 j = ι2 68 0 j ∧ ι7 69 0 j = ι2 69 0 j := fun j => ⟨by rw [F7 68 0 j (by omega), F6 68 0 j (by rintro ((q | q | q | q | q) | q) <;> omega), F25 68 0 j (by omega)], by rw [F7 69 0 j (by omega), F6 69 0 j (by rintro ((q | q | q | q | q) | q) <;> omega), F25 69 0 j (by omega)]⟩
    have fcF : Fr (fun t i j => t = 12 ∨ t = 13 ∨ 67 ≤ t ∧ t ≤ 89) ι2 ι7 := fun t i j q => fc t i j (by omega) (by omega) (by omega)
    refine ⟨⟨?_, ?_, fun k x y => ?_, ?_⟩, ⟨?_, ?_, fun k x y => ?_⟩, ⟨fun k x y => ?_, fun k x y => ?_⟩, ⟨?_, rg', PA', pc', tl', cm', has', W', fun i x y => ?_, fun i x y => ?_, fun j x y => ?_, qE.2.fr F7 (fun j => by omega), ?_, ?_, k4, ?_, ?_, k5⟩, hRp ι ι7 FA' hp⟩
    · rw [fc 2 0 1 (by omega) (by omega) (by omega), hB.1]; omega
    · rw [fc 2 0 1 (by omega) (by omega) (by omega), hB.1, F7 13 0 3 (by omega), F6 13 0 3 (by decide), c3]; omega
    · rw [fc 2 0 1 (by omega) (by omega) (by omega), hB.1] at y; omega
    · rw [fc 2 0 1 (by omega) (by omega) (by omega), hB.1, fc 2 0 2 (by omega) (by omega) (by omega), hB.2.1, F7 13 0 4 (by omega), F6 13 0 4 (by decide), c4]; omega
    · rw [fc 2 1 1 (by omega) (by omega) (by omega), F2 2 1 1 (by omega), z2]
      by_cases e : r = 0
      · rw [if_pos e]; have := k3 e; omega
      · rw [if_neg e]; omega
    · rw [fc 2 1 1 (by omega) (by omega) (by omega), F2 2 1 1 (by omega), z2, ← qn, h7]; simp (disch := omega) only [up_s, up_k, up_j, up_i]
    · rw [fc 2 1 1 (by omega) (by omega) (by omega), F2 2 1 1 (by omega), z2] at y
      by_cases e : r = 0
      · rw [if_pos e] at y
        have e1 := q67 e k x y
        rw [fc 20 1 k (by omega) (by omega) (by omega), F2 20 1 k (by omega), z3 e k x y, F7 67 0 k (by omega), e1]
        exact ⟨rfl, (k3 e).2.2 k x y⟩
      · rw [if_neg e] at y; omega
    · rw [fc 64 0 k (by omega) (by omega) (by omega), (fm k).1, n64, n68]; exact hJw.1 k x y
    · rw [fc 65 0 k (by omega) (by omega) (by omega), (fm k).2, n65, n69]; exact hJw.2 k x y
    · rw [fc 0 0 1 (by omega) (by omega) (by omega), F2 0 0 1 (by omega), z1, h7]; simp (disch := omega) only [up_s, up_k, up_j, up_i]
    · rw [fc 51 0 i (by omega) (by omega) (by omega), F2 51 0 i (by omega)]; exact z4 i x y
    · rw [F7 77 0 (3 - i) (by omega)]; exact qE.1 i x y
    · rw [fc 52 0 j (by omega) (by omega) (by omega), F2 52 0 j (by omega)]; exact z5 j x y
    · rw [fc 8 0 3 (by omega) (by omega) (by omega), F2 8 0 3 (by omega)]; exact z6
    · rw [F7 13 0 19 (by omega)]; exact q19
    · exact (z7.fr k5 F2 (fun i j => by omega)).fr k5 fcF (fun i j => by omega)
    · exact qD.fr F7 (fun j => by omega)
  refine k7 ι5 _ _ R5 c6 c77 (fun j x y => by rw [F25 76 0 j (by omega), n76]; exact hPM j x y) c19 c33 (fun k x y => by rw [F25 68 0 k (by omega), n68]) (fun k x y => by rw [F25 69 0 k (by omega), n69]) (fun e ι6 x1 x2 x3 x4 x5 x6 F6 => ?_) (fun e ι6 x1 x2 x3 x4 x5 F6 => ?_)
  · rw [x1.1]
    have := fin ι6 s' F6 x1.1 (by rw [if_pos e]) (fun _ => x3) x4 x5 x6
    rw [x2]
    refine ⟨by rw [if_pos e], ?_⟩
    have e6 : up ι6 13 0 6 s' = ι6 := by
      funext t i j
      unfold up
      by_cases q : t = 13 ∧ j = 6 ∧ i = 0
      · rw [if_pos q, q.1, q.2.1, q.2.2, x2]
      · rw [if_neg q]
    rw [e6] at this
    exact this
  · refine e_M_open_83 ?_
    rw [x2, x1.1]
    exact ⟨by omega, by rw [if_neg e], fin ι6 0 F6 x1.1 (by rw [if_neg e]) (fun q => absurd q e) x3 x4 x5⟩
end Open
