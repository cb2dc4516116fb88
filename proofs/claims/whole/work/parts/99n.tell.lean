/-! read, part, ring, map, length, count, command: pairs -/
section Tell
variable {sc : bm_Sc} {ι : bm_S}
theorem Jo.far {ι ι' : bm_S} (hF : Fr sf ι ι') (h : Jo ι) : Jo ι' := by
  have hn : ∀ (t : Nat) (i j : Int), t ≠ 64 → t ≠ 65 → t ≠ 66 → t ≠ 68 → t ≠ 69 → t ≠ 70 → t ≠ 2 → t ≠ 20 → (t = 13 → j ≠ 0 ∧ j ≠ 3 ∧ j ≠ 4 ∧ j ≠ 10) → ι' t i j = ι t i j := fun t i j _ _ _ _ _ _ _ _ _ => hF t i j (by unfold sf; omega)
  obtain ⟨h0, rg, PA, pc, tl, cm, has, W, a1, a2, a3, a4, a5, a6, a7, a8, a9, a10⟩ := h
  refine ⟨?_, rg, PA, pc, tl, cm, has, W, fun i x y => ?_, fun i x y => ?_, a3.fr hF (fun j => by unfold sf; omega), a4.fr hF (fun j => by unfold sf; omega), ?_, ?_, a7, a8.fr a10 hF (fun i j => by unfold sf; omega), a9.fr hF (fun j => by unfold sf; omega), a10⟩
  · rw [hn 0 0 1 (by omega) (by omega) (by omega) (by omega) (by omega) (by omega) (by omega) (by omega) (by omega), hn 13 0 20 (by omega) (by omega) (by omega) (by omega) (by omega) (by omega) (by omega) (by omega) (by omega)]; exact h0
  · rw [hF 51 0 i (by unfold sf; omega)]; exact a1 i x y
  · rw [hF 77 0 (3 - i) (by unfold sf; omega)]; exact a2 i x y
  · rw [hF 8 0 3 (by unfold sf; omega)]; exact a5
  · rw [hF 13 0 19 (by unfold sf; omega)]; exact a6
def Jp (ι : bm_S) : Prop := ι 9 0 4 = ι 13 0 63 ∧ (0 ≤ ι 13 0 63 ∧ ι 13 0 63 ≤ 501) ∧ ∀ i, 0 ≤ i → i < ι 13 0 63 → ι 55 0 i = ι 104 0 (4 * i + 0) ∧ ι 56 0 i = ι 104 0 (4 * i + 1) ∧ ι 57 0 i = ι 104 0 (4 * i + 2) ∧ ι 58 0 i = ι 104 0 (4 * i + 3)
variable {Rest : bm_S → Prop}
theorem J_up (hR : ∀ ι ι' : bm_S, Fr sf ι ι' → Rest ι → Rest ι') (hJ : Jn Rest ι) : Jn Rest (up ι 13 0 0 0) := by
  obtain ⟨⟨t1, t2, t3, t4⟩, ⟨m1, m2, m3⟩, hw, hr⟩ := hJ
  exact ⟨⟨t1, t2, t3, t4⟩, ⟨m1, m2, m3⟩, hw, hR _ _ ((Fr.refl sf ι).u (by unfold sf; omega)) hr⟩
theorem p_read (hR : ∀ ι ι' : bm_S, Fr sf ι ι' → Rest ι → Rest ι') (hJ : Jn Rest ι) (hJo : Jo ι) : Pair sc 134 227 [] ι (Jn Rest) := e_X_read_0 (e_M_read_0 ⟨hJo.1, J_up hR hJ⟩)
theorem p_part {x y : Int} (hR : ∀ ι ι' : bm_S, Fr sf ι ι' → Rest ι → Rest ι') (hJ : Jn Rest ι) (hJo : Jo ι) : Pair sc 135 228 [bi x, bi y] ι (Jn Rest) := by
  have fin := J_up hR hJ
  obtain ⟨-, rg, PA, pc, tl, cm, has, W, a1, a2, a3, a4, a5, a6, a7, -⟩ := hJo
  have bad : (x < 0 ∨ min pc 60 ≤ x ∨ y < 0 ∨ 12 ≤ y) → bC sc 228 [br 13 0, bi x, bi y] ι (bk1 (fun r2 ι2 => (-1 : Int) = r2 ∧ Jn Rest ι2) (fun _ _ => False)) := fun h => by
    refine e_M_part_0 ?_
    rw [a6]
    refine bif_i (fun c => ⟨by omega, bif_i (fun _ => ⟨rfl, fin⟩) (fun c1 => bif_i (fun _ => ⟨rfl, fin⟩) (fun c2 => ?_))⟩) (fun c => ⟨by omega, bif_i (fun _ => ⟨rfl, fin⟩) (fun c1 => bif_i (fun _ => ⟨rfl, fin⟩) (fun c2 => ?_))⟩)
    · exfalso; grind
    · exfalso; grind
  refine e_X_part_0 ?_
  rw [a5]
  refine bif_i (fun c => bad (by omega)) (fun c => bif_i (fun c1 => bad (by omega)) (fun c1 => bif_i (fun c2 => bad (by omega)) (fun c2 => bif_i (fun c3 => ⟨by omega, by omega, by omega, ?_⟩) (fun c3 => bad (by omega)))))
  refine e_M_part_0 ?_
  rw [a6]
  refine bif_i (fun q => ⟨by omega, bif_f (by rw [if_pos (by omega)]; omega) (bif_f (by rw [if_pos (by omega)]; omega) ⟨by omega, by omega, by omega, ?_, fin⟩)⟩) (fun q => ⟨by omega, bif_f (by rw [if_pos (by omega)]; omega) (bif_f (by rw [if_pos (by omega)]; omega) ⟨by omega, by omega, by omega, ?_, fin⟩)⟩)
  · rw [a3 _ (by omega) (by omega), a4 _ (by omega) (by omega), show x * 12 + y = 12 * x + y by omega]
  · rw [a3 _ (by omega) (by omega), a4 _ (by omega) (by omega), show x * 12 + y = 12 * x + y by omega]
theorem p_ring {x : Int} (hR : ∀ ι ι' : bm_S, Fr sf ι ι' → Rest ι → Rest ι') (hJ : Jn Rest ι) (hJo : Jo ι) : Pair sc 136 229 [bi x] ι (Jn Rest) := by
  have fin := J_up hR hJ
  obtain ⟨-, rg, PA, pc, tl, cm, has, W, a1, a2, -⟩ := hJo
  refine e_X_ring_0 (bif_i (fun c => ?_) (fun c => bif_i (fun c1 => ⟨by omega, ?_⟩) (fun c1 => ?_)))
  · exact e_M_ring_0 (bif_t (by rw [if_neg (by omega)]) ⟨rfl, fin⟩)
  · exact e_M_ring_0 (bif_f (by rw [if_pos (by omega)]; omega) ⟨by omega, by omega, by rw [a1 x (by omega) (by omega), a2 x (by omega) (by omega)], fin⟩)
  · exact e_M_ring_0 (bif_t (by rw [if_neg (by omega)]) ⟨rfl, fin⟩)
theorem p_count {x : Int} (hR : ∀ ι ι' : bm_S, Fr sf ι ι' → Rest ι → Rest ι') (hJ : Jn Rest ι) (hJo : Jo ι) (hJp : Jp ι) : Pair sc 140 233 [bi x] ι (Jn Rest) := by
  have fin := J_up hR hJ
  have hw := hJ.2.2.1
  have ht := hJ.1.2.1
  have hm := hJ.2.1.2.1
  obtain ⟨-, rg, PA, pc, tl, cm, has, W, -, -, -, -, a5, a6, -⟩ := hJo
  refine e_X_count_0 (bif_i (fun c => s_all hw ?_) (fun c => bif_i (fun c1 => ?_) (fun c1 => bif_i (fun c2 => ?_) (fun c2 => bif_i (fun c3 => ?_) (fun c3 => bif_i (fun c4 => ?_) (fun c4 => ?_))))))
  · refine e_M_count_0 (bif_t c (m_all fin.2.2.1 ⟨?_, fin⟩))
    exact sumw_ext (fun n x y => (hw.2 n x y).1)
  · exact e_M_count_0 (bif_f c (bif_t c1 ⟨ht.symm, fin⟩))
  · exact e_M_count_0 (bif_f c (bif_f c1 (bif_t c2 ⟨hm.symm, fin⟩)))
  · exact e_M_count_0 (bif_f c (bif_f c1 (bif_f c2 (bif_t c3 ⟨a5.trans a6.symm, fin⟩))))
  · exact e_M_count_0 (bif_f c (bif_f c1 (bif_f c2 (bif_f c3 (bif_t c4 ⟨hJp.1, fin⟩)))))
  · exact e_M_count_0 (bif_f c (bif_f c1 (bif_f c2 (bif_f c3 (bif_f c4 ⟨rfl, fin⟩)))))
theorem p_command {x y : Int} (hR : ∀ ι ι' : bm_S, Fr sf ι ι' → Rest ι → Rest ι') (hJ : Jn Rest ι) (hJp : Jp ι) : Pair sc 139 232 [bi x, bi y] ι (Jn Rest) := by
  have fin := J_up hR hJ
  obtain ⟨b1, b2, b3⟩ := hJp
  have bad : (x < 0 ∨ ι 13 0 63 ≤ x ∨ y < 0 ∨ 3 < y) → bC sc 232 [br 13 0, bi x, bi y] ι (bk1 (fun r2 ι2 => (-1 : Int) = r2 ∧ Jn Rest ι2) (fun _ _ => False)) := fun h => by
    refine e_M_command_0 ⟨by omega, bif_i (fun _ => ⟨rfl, fin⟩) (fun c1 => bif_i (fun _ => ⟨rfl, fin⟩) (fun c2 => ?_))⟩
    exfalso; grind
  have good : 0 ≤ x → x < ι 13 0 63 → 0 ≤ y → y ≤ 3 → ∀ v : Int, v = ι 104 0 (4 * x + y) → bC sc 232 [br 13 0, bi x, bi y] ι (bk1 (fun r2 ι2 => v = r2 ∧ Jn Rest ι2) (fun _ _ => False)) := fun h1 h2 h3 h4 v hv => e_M_command_0 ⟨by omega, bif_f (by rw [if_pos (by omega)]; omega) (bif_f (by rw [if_pos (by omega)]; omega) ⟨by omega, by omega, by omega, hv, fin⟩)⟩
  refine e_X_command_0 ?_
  rw [b1]
  refine bif_i (fun c => bad (by omega)) (fun c => bif_i (fun c1 => ?_) (fun c1 => bad (by omega)))
  have b := b3 x (by omega) c1
  refine bif_i (fun c2 => ⟨by omega, good (by omega) c1 (by omega) (by omega) _ ?_⟩) (fun c2 => bif_i (fun c3 => ⟨by omega, good (by omega) c1 (by omega) (by omega) _ ?_⟩) (fun c3 => bif_i (fun c4 => ⟨by omega, good (by omega) c1 (by omega) (by omega) _ ?_⟩) (fun c4 => bif_i (fun c5 => ⟨by omega, good (by omega) c1 (by omega) (by omega) _ ?_⟩) (fun c5 => bad (by omega)))))
  · rw [c2]; exact b.1
  · rw [c3]; exact b.2.1
  · rw [c4]; exact b.2.2.1
  · rw [c5]; exact b.2.2.2
theorem p_map {x y : Int} (hR : ∀ ι ι' : bm_S, Fr sf ι ι' → Rest ι → Rest ι') (hJ : Jn Rest ι) (hJo : Jo ι) : Pair sc 137 230 [bi x, bi y] ι (Jn Rest) := by
  have fin := J_up hR hJ
  obtain ⟨-, rg, PA, pc, tl, cm, has, W, -, -, -, -, -, -, -, hD, hDm, hT⟩ := hJo
  by_cases hh : has = 0
  · refine e_X_map_46_0 (bif_t (by rw [hD.2.2.1]; exact hh) (e_M_map_0 (bif_t (by rw [hDm.1]; exact hh) ⟨rfl, fin⟩)))
  have hh1 : has = 1 := by have := hT.2.1; omega
  have hO := hT.2.2 hh1
  have hC := hD.2.2.2 hh1
  have hM := hDm.2 hh1
  have k0 := (hO.1 0 (by omega) (by omega)).1
  have k2 := (hO.1 2 (by omega) (by omega)).1
  have e0 := hC.1 0 (by omega) (by omega)
  have e2 := hC.1 2 (by omega) (by omega)
  have f0 := hM.2.2.2.1 0 (by omega) (by omega)
  have f2 := hM.2.2.2.1 2 (by omega) (by omega)
  have n33 : ¬ ι 13 0 33 = 0 := by rw [hDm.1]; exact hh
  have n5 : ¬ ι 8 0 5 = 0 := by rw [hD.2.2.1]; exact hh
  have bad : (x < 0 ∨ 1 < x ∨ y < 0 ∨ x = 0 ∧ 64 * W 0 0 0 ≤ y ∨ x = 1 ∧ 4 * W 0 2 0 ≤ y) → bC sc 230 [br 13 0, bi x, bi y] ι (bk1 (fun r2 ι2 => (-1 : Int) = r2 ∧ Jn Rest ι2) (fun _ _ => False)) := fun h => by
    refine e_M_map_0 (bif_f n33 (bif_i (fun _ => ⟨rfl, fin⟩) (fun c1 => ?_)))
    have c1 : 0 ≤ x ∧ x ≤ 1 := by grind
    rw [f0, f2]
    refine bif_i (fun c => ⟨by omega, by omega, by omega, bif_t (by rw [if_neg (by omega)]) ⟨rfl, fin⟩⟩) (fun c => ⟨by omega, by omega, by omega, bif_t (by rw [if_neg (by omega)]) ⟨rfl, fin⟩⟩)
  by_cases hx : x = 0
  · refine e_X_map_46_0 (bif_f n5 (bif_f (by omega) (bif_f (by omega) (bif_i (fun c => bad (by omega)) (fun c => ⟨rfl, e_L_mapSize_0 (bif_t hx ⟨by omega, ?_⟩)⟩)))))
    rw [hD.1, e0]
    refine ⟨by omega, bif_i (fun c1 => ⟨rfl, ?_⟩) (fun c1 => bad (by omega))⟩
    rw [hD.1]
    refine e_L_mapOf_0 (bif_t hx (e_X_map_46_51 ⟨by omega, ?_⟩))
    rw [hC.2.2.2.2.2.2.1 y (by omega) (by omega)]
    refine e_M_map_0 (bif_f n33 (bif_f (by rw [if_pos (by omega)]; omega) (bif_t hx ?_)))
    rw [f0]
    exact ⟨by omega, by omega, by omega, bif_f (by rw [if_pos (by omega)]; omega) (bif_t hx ⟨by omega, by rw [hM.2.2.2.2.1 y (by omega) (by omega)], fin⟩)⟩
  · refine e_X_map_47_0 (bif_f n5 (bif_i (fun c => bad (by omega)) (fun c => bif_i (fun c1 => bad (by omega)) (fun c1 => bif_i (fun c2 => bad (by omega)) (fun c2 => ⟨rfl, e_L_mapSize_0 (bif_f hx ⟨by omega, ?_⟩)⟩)))))
    rw [hD.1, e2]
    refine ⟨by omega, bif_i (fun c3 => ⟨rfl, ?_⟩) (fun c3 => bad (by omega))⟩
    rw [hD.1]
    refine e_L_mapOf_0 (bif_f hx (e_X_map_47_51 ⟨by omega, ?_⟩))
    rw [hC.2.2.2.2.2.2.2.1 y (by omega) (by omega)]
    refine e_M_map_0 (bif_f n33 (bif_f (by rw [if_pos (by omega)]; omega) (bif_f hx ?_)))
    rw [f2]
    exact ⟨by omega, by omega, by omega, bif_f (by rw [if_pos (by omega)]; omega) (bif_f hx ⟨by omega, by rw [hM.2.2.2.2.2.1 y (by omega) (by omega)], fin⟩)⟩
/-! the length of a sign -/
variable {K : Int → bm_S → Prop} {H : Nat × Int → bm_S → Prop} {c : Int} {L : Int → Int} {a : Nat} {x : Nat}
theorem s_len13 (h1 : ∀ n : Nat, 1 ≤ n → n ≤ 15 → ι 21 c n = mc L a n) (h2 : ∀ s : Nat, s < a → 1 ≤ L s → L s ≤ 15 → ι 22 c (bef L a (L s).toNat + cn L (L s) s) = s) (hx : x < a) (ha : (a : Int) ≤ bm_L 22 c) (ha2 : a ≤ 704) {n : Nat} (hn : 1 ≤ n ∧ n ≤ 15) : ∀ (m : Nat) (k : Int), k = mc L a n - m → 0 ≤ k → (L x = n → k ≤ cn L n x) → (L x = n → K n ι) → (L x ≠ n → bW sc 24 4 [br 3 c, bi x, bi (bef L a (n + 1)), bi ((n + 1 : Nat) : Int), bi (mc L a n)] [] ι (bk1 K H)) → bW sc 24 13 [br 3 c, bi x, bi (bef L a n + k), bi n, bi k] [] ι (bk1 K H)
  | 0, k, hk, h0, hlt, hK, hN => by
    have e0 : mc L a n = cn L n a := by unfold mc; rw [if_neg (by omega)]
    have hne : L x ≠ n := fun e => by
      have q := hlt e
      have q1 := cn_lt L n hx e
      omega
    have hb : bef L a (n + 1) = bef L a n + mc L a n := rfl
    refine e_C_lengthOf_13 ⟨by omega, ?_⟩
    rw [h1 n hn.1 hn.2]
    refine bif_t (by omega) ⟨by omega, ?_⟩
    have := hN hne
    rw [hb] at this
    rw [show k = mc L a n by omega]
    exact this
  | m + 1, k, hk, h0, hlt, hK, hN => by
    have e0 : mc L a n = cn L n a := by unfold mc; rw [if_neg (by omega)]
    have hb : bef L a (n + 1) = bef L a n + mc L a n := rfl
    have hb1 := bef_le L (n + 1) a
    have hb2 := bef_nn L a n
    obtain ⟨s, s1, s2, s3⟩ := cn_surj L n k h0 a (by omega)
    have e22 : ι 22 c (bef L a n + k) = s := by
      have := h2 s s1 (by omega) (by omega)
      rw [s2, s3] at this
      simpa using this
    refine e_C_lengthOf_13 ⟨by omega, ?_⟩
    rw [h1 n hn.1 hn.2, e22]
    refine bif_f (by omega) ⟨by omega, bif_i (fun e => ?_) (fun e => ⟨by omega, by omega, ?_⟩)⟩
    · have e : s = x := by omega
      rw [e] at s2
      exact hK s2
    · rw [show bef L a n + k + 1 = bef L a n + (k + 1) by omega]
      refine s_len13 h1 h2 hx ha ha2 hn m (k + 1) (by omega) (by omega) (fun q => ?_) hK hN
      have q1 := hlt q
      by_cases q2 : k = cn L n x
      · exfalso
        apply e
        have := h2 x hx (by omega) (by omega)
        rw [q, ← q2] at this
        have e4 : ι 22 c (bef L a n + k) = x := by simpa using this
        rw [e22] at e4
        exact e4
      · omega
theorem s_len4 (h1 : ∀ n : Nat, 1 ≤ n → n ≤ 15 → ι 21 c n = mc L a n) (h2 : ∀ s : Nat, s < a → 1 ≤ L s → L s ≤ 15 → ι 22 c (bef L a (L s).toNat + cn L (L s) s) = s) (hx : x < a) (ha : (a : Int) ≤ bm_L 22 c) (ha2 : a ≤ 704) (hL : 0 ≤ L x ∧ L x ≤ 15) (h : K (L x) ι) : ∀ (m n : Nat) (v : bm_V), n + m = 16 → 1 ≤ n → (1 ≤ L x → (n : Int) ≤ L x) → bW sc 24 4 [br 3 c, bi x, bi (bef L a n), bi n, v] [] ι (bk1 K H)
  | 0, n, v, hm, h0, hl => e_C_lengthOf_4 (bif_t (by omega) (K_of h (by by_cases q : 1 ≤ L x; · have := hl q; omega
                                                                        · omega)))
  | m + 1, n, v, hm, h0, hl => by
    refine e_C_lengthOf_4 (bif_f (by omega) ?_)
    have q := s_len13 (sc := sc) (K := K) (H := H) h1 h2 hx ha ha2 (n := n) (by omega) (mc L a n).toNat 0 (by have := mc_nn L a n; omega) (by omega) (fun _ => (cn_nn L n x).1) (fun e => K_of h e) (fun e => s_len4 h1 h2 hx ha ha2 hL h m (n + 1) _ (by omega) (by omega) (fun z => by have := hl z; omega))
    rw [show bef L a n + 0 = bef L a n by omega] at q
    exact q
theorem s_lenOf {lo : Int} (hC : CodeC ι c lo L a) (hO : CodeOK lo L a) (hz : 0 ≤ lo → ∀ s : Nat, s < a → L s = 0) (hx : x < a) (ha : (a : Int) ≤ bm_L 22 c) (ha2 : a ≤ 704) (h : K (L x) ι) : bC sc 24 [br 3 c, bi x] ι (bk1 K H) := by
  refine e_C_lengthOf_0 ?_
  rcases hC with ⟨b1, b2, b3, b4⟩ | ⟨b1, b2, b3, b4⟩
  · have e0 := hz b1 x hx
    have go : ∀ (m n : Nat) (v : bm_V), n + m = 16 → 1 ≤ n → bW sc 24 4 [br 3 c, bi x, bi 0, bi n, v] [] ι (bk1 K H) := by
      intro m
      induction m with
      | zero => intro n v hm h0; exact e_C_lengthOf_4 (bif_t (by omega) (K_of h e0))
      | succ m ih =>
        intro n v hm h0
        refine e_C_lengthOf_4 (bif_f (by omega) (e_C_lengthOf_13 ⟨by omega, ?_⟩))
        rw [b4 n h0 (by omega)]
        exact bif_t (by omega) ⟨by omega, ih (n + 1) _ (by omega) (by omega)⟩
    exact go 15 1 _ rfl (by omega)
  · have q := s_len4 (sc := sc) (K := K) (H := H) b3 b4 hx ha ha2 (hO.1 x hx) h 15 1 bu rfl (by omega) (fun z => z)
    have e1 : bef L a 1 = 0 := rfl
    rw [e1] at q
    exact q
end Tell
