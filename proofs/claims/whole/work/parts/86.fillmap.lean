/-! maps: filled -/
section MapFill
variable {sc : bm_Sc} {β : Int → Int} {lim : Int}

theorem s_fill46_err {K : bm_S → Prop} {H : Nat × Int → bm_S → Prop} {ι : bm_S} {cm n rn x k : Int} {v6 : bm_V} (hr : ι 0 0 3 ≠ 0) (h : K ι) : bW sc 84 6 [br 8 0, br 46 cm, bi n, bi rn, bi x, bi k, v6] [] ι (bk0 K H) :=
  e_O_fillMap_46_6 (bif_i (fun _ => h) (fun _ => bif_i (fun _ => h) (fun _ => s_fine (fun e => absurd e hr) (fun _ => bif_t rfl h))))
theorem m_fill83_96 {Q : bm_O → bm_S → Prop} {n tr rn many : Int} {v6 : bm_V} (hn : n ≤ 768) (hmy : many ≤ 1000000) : ∀ (m : Nat) (x i : Int) (ι : bm_S), i = many - m → 0 ≤ i → 0 ≤ x → x + m ≤ n → (∀ j, x ≤ j → j < x + m → ι 83 0 j = 0) →
    (∀ (ι' : bm_S) (v8 : bm_V), (∀ j, ι' 83 0 j = ι 83 0 j) → Fr (fun t i j => t = 83) ι ι' → bW sc 196 34 [br 13 0, br 83 0, bi n, bi tr, bi rn, bi (x + m), v6, bi many, v8] [] ι' Q) → bW sc 196 96 [br 13 0, br 83 0, bi n, bi tr, bi rn, bi x, v6, bi many, bi i] [] ι Q
  | 0, x, i, ι, hi, h0, hx, hx2, e, h => by
    refine e_M_readMap_83_96 (bif_t (by omega) ?_)
    have := h ι (bi i) (fun _ => rfl) (Fr.refl _ _)
    rw [show x + ((0 : Nat) : Int) = x by omega] at this
    exact this
  | m + 1, x, i, ι, hi, h0, hx, hx2, e, h => by
    refine e_M_readMap_83_96 (bif_f (by omega) ⟨by omega, by omega, by omega, ?_⟩)
    refine m_fill83_96 hn hmy m (x + 1) (i + 1) _ (by omega) (by omega) (by omega) (by omega) (fun j a b => by rw [up_at]; split; rfl; exact e j (by omega) (by omega)) fun ι' v8 g1 g2 => ?_
    rw [show x + 1 + (m : Int) = x + ((m + 1 : Nat) : Int) by omega]
    refine h ι' v8 (fun j => ?_) (((Fr.refl _ _).u rfl).trans g2)
    rw [g1, up_at]
    split
    · rename_i q; rw [q, e x (by omega) (by omega)]
    · rfl
theorem j_fill46 (hw : wfβ β lim) {n tr rn lm : Int} {LM : Int → Int} (hn : 0 ≤ n ∧ n ≤ 768) (htr : 2 ≤ tr ∧ tr ≤ 12) (hrn : 0 ≤ rn ∧ rn ≤ 16) (hO : CodeOK lm LM (tr + rn).toNat) (cm : Int) : ∀ (d : Nat) (x k p : Int) (M : Int → Int), n - x ≤ d → 0 ≤ x → x ≤ n → 0 ≤ k → k ≤ x → 0 ≤ p → p ≤ lim → (∀ j, 0 ≤ j → j < 768 → 0 ≤ M j ∧ M j < tr) → (∀ j, x ≤ j → j < 768 → M j = 0) →
    ∃ (p' r : Int) (M' : Int → Int), p ≤ p' ∧ p' ≤ lim ∧ (r = 0 ∨ 0 < r ∧ r < 18) ∧ (∀ j, 0 ≤ j → j < 768 → 0 ≤ M' j ∧ M' j < tr) ∧ (∀ j, n ≤ j → j < 768 → M' j = 0) ∧
    (∀ (ι : bm_S) (v6 : bm_V) (K : bm_S → Prop) (H : Nat × Int → bm_S → Prop), cR ι β lim p 0 → CodeC ι 72 lm LM (tr + rn).toNat → (∀ j, 0 ≤ j → j < 768 → ι 46 cm j = M j) → (∀ ι' : bm_S, cR ι' β lim p' r → (r = 0 → ∀ j, 0 ≤ j → j < 768 → ι' 46 cm j = M' j) → Fr (fun t i j => fR t i j ∨ t = 46 ∧ i = cm) ι ι' → K ι') → bW sc 84 6 [br 8 0, br 46 cm, bi n, bi rn, bi x, bi k, v6] [] ι (bk0 K H)) ∧
    (∀ (ι : bm_S) (v6 v7 v8 : bm_V) (K : bm_S → Prop) (H : Nat × Int → bm_S → Prop), mR ι β lim p → CodeM ι 17880 lm LM (tr + rn).toNat → (∀ j, 0 ≤ j → j < 768 → ι 83 0 j = M j) → (r = 0 → ∀ (ι' : bm_S) (v6 v7 v8 : bm_V), mR ι' β lim p' → (∀ j, 0 ≤ j → j < 768 → ι' 83 0 j = M' j) → Fr (fun t i j => gR t i j ∨ t = 83) ι ι' → bW sc 196 34 [br 13 0, br 83 0, bi n, bi tr, bi rn, bi n, v6, v7, v8] [] ι' (bk0 K H)) → (r ≠ 0 → ∀ ι' : bm_S, mR ι' β lim p' → ι' 12 0 6 = r → Fr (fun t i j => gR t i j ∨ t = 83) ι ι' → H (12, 0) ι') → bW sc 196 34 [br 13 0, br 83 0, bi n, bi tr, bi rn, bi x, v6, v7, v8] [] ι (bk0 K H)) := by
  intro d
  have hL72 : bm_L 22 72 = 28 := rfl
  have hcast : (((tr + rn).toNat : Nat) : Int) = tr + rn := by omega
  have fin : ∀ (x k p : Int) (M : Int → Int), x = n → 0 ≤ p → p ≤ lim → (∀ j, 0 ≤ j → j < 768 → 0 ≤ M j ∧ M j < tr) → (∀ j, x ≤ j → j < 768 → M j = 0) → _ := fun x k p M hx hp0 hp1 hM hM0 => (⟨p, 0, M, by omega, hp1, Or.inl rfl, hM, fun j a b => hM0 j (by omega) b, fun ι v6 K H hR hC e h => e_O_fillMap_46_6 (bif_i (fun _ => h ι hR (fun _ => e) (Fr.refl _ _)) (fun _ => bif_t (by omega) (h ι hR (fun _ => e) (Fr.refl _ _)))), fun ι v6 v7 v8 K H hR hC e h hh => by rw [hx]; exact h rfl ι _ _ _ hR e (Fr.refl _ _)⟩ : ∃ (p' r : Int) (M' : Int → Int), p ≤ p' ∧ p' ≤ lim ∧ (r = 0 ∨ 0 < r ∧ r < 18) ∧ (∀ j, 0 ≤ j → j < 768 → 0 ≤ M' j ∧ M' j < tr) ∧ (∀ j, n ≤ j → j < 768 → M' j = 0) ∧
    (∀ (ι : bm_S) (v6 : bm_V) (K : bm_S → Prop) (H : Nat × Int → bm_S → Prop), cR ι β lim p 0 → CodeC ι 72 lm LM (tr + rn).toNat → (∀ j, 0 ≤ j → j < 768 → ι 46 cm j = M j) → (∀ ι' : bm_S, cR ι' β lim p' r → (r = 0 → ∀ j, 0 ≤ j → j < 768 → ι' 46 cm j = M' j) → Fr (fun t i j => fR t i j ∨ t = 46 ∧ i = cm) ι ι' → K ι') → bW sc 84 6 [br 8 0, br 46 cm, bi n, bi rn, bi x, bi k, v6] [] ι (bk0 K H)) ∧
    (∀ (ι : bm_S) (v6 v7 v8 : bm_V) (K : bm_S → Prop) (H : Nat × Int → bm_S → Prop), mR ι β lim p → CodeM ι 17880 lm LM (tr + rn).toNat → (∀ j, 0 ≤ j → j < 768 → ι 83 0 j = M j) → (r = 0 → ∀ (ι' : bm_S) (v6 v7 v8 : bm_V), mR ι' β lim p' → (∀ j, 0 ≤ j → j < 768 → ι' 83 0 j = M' j) → Fr (fun t i j => gR t i j ∨ t = 83) ι ι' → bW sc 196 34 [br 13 0, br 83 0, bi n, bi tr, bi rn, bi n, v6, v7, v8] [] ι' (bk0 K H)) → (r ≠ 0 → ∀ ι' : bm_S, mR ι' β lim p' → ι' 12 0 6 = r → Fr (fun t i j => gR t i j ∨ t = 83) ι ι' → H (12, 0) ι') → bW sc 196 34 [br 13 0, br 83 0, bi n, bi tr, bi rn, bi x, v6, v7, v8] [] ι (bk0 K H)))
  induction d with
  | zero =>
    intro x k p M hd hx0 hx1 hk0 hk1 hp0 hp1 hM hM0
    exact fin x k p M (by omega) hp0 hp1 hM hM0
  | succ d ih =>
    intro x k p M hd hx0 hx1 hk0 hk1 hp0 hp1 hM hM0
    by_cases hxn : x = n
    · exact fin x k p M hxn hp0 hp1 hM hM0
    · obtain ⟨p1, r1, s, i1, i2, i3, i4, i5, i6⟩ := j_signT (sc := sc) (a := (tr + rn).toNat) hw (by omega) hO p hp0 hp1
      rw [hcast] at i6
      by_cases hr : r1 = 0
      · by_cases hs : (s : Int) = 0 ∨ rn < s
        · -- a tree
          have hv : ∃ v : Int, v = (if (s : Int) = 0 then 0 else (s : Int) - rn) ∧ 0 ≤ v ∧ v < tr := ⟨_, rfl, by split <;> omega, by split <;> omega⟩
          obtain ⟨v, hv1, hv2, hv3⟩ := hv
          obtain ⟨p', r, M', t1, t2, t3, t4, t5, t6, t7⟩ := ih (x + 1) (k + 1) p1 (fs M x v) (by omega) (by omega) (by omega) (by omega) (by omega) (by omega) i2 (fun j a b => by have := hM j a b; unfold fs; split <;> omega) (fun j a b => by rw [fs_n (by omega)]; exact hM0 j (by omega) b)
          refine ⟨p', r, M', by omega, t2, t3, t4, t5, ?_, ?_⟩
          · intro ι v6 K H hR hC e h
            refine e_O_fillMap_46_6 (bif_f (by omega) (bif_f (by omega) (s_fine (fun _ => bif_f (by omega) (i5 ι 72 _ _ (by omega) hR hC fun ι1 a1 a2 => ?_)) (fun e => absurd hR.2.2.1 e))))
            rw [hr] at a1
            rw [if_pos hr]
            have hF1 : Fr (fun t i j => t = 46 ∧ i = cm) ι1 (up ι1 46 cm x v) := (Fr.refl _ _).u (by omega)
            have hF : Fr (fun t i j => fR t i j ∨ t = 46 ∧ i = cm) ι (up ι1 46 cm x v) := (a2.wide fun t i j q => by grind).trans (hF1.wide fun t i j q => by grind)
            have key := t6 (up ι1 46 cm x v) (bi (s : Int)) K H (a1.fr hF1 (fun j => by omega) (by simp (disch := omega) only [up_s, up_k, up_j, up_i]; exact a1.1) (by simp (disch := omega) only [up_s, up_k, up_j, up_i]; exact a1.2.2.1)) ((hC.fr a2 (fun j => by omega)).fr hF1 (fun j => by omega)) (fun j a b => by
              rw [up_at]; unfold fs
              by_cases q : j = x
              · rw [if_pos q, if_pos q]
              · rw [if_neg q, if_neg q, a2 46 cm j (by omega)]; exact e j a b) fun ι' g1 g2 g3 => h ι' g1 g2 (hF.trans g3)
            have hmax : max ((s : Int) - rn) 0 = v := by rw [hv1]; split <;> omega
            rw [← hmax] at key
            exact bif_i (fun q => ⟨by omega, by omega, by omega, by omega, key⟩) (fun q => bif_f (by omega) ⟨by omega, by omega, by omega, by omega, key⟩)
          · intro ι v6 v7 v8 K H hR hC e h hh
            refine e_M_readMap_83_34 (bif_f (by omega) ⟨by omega, i6 ι 17880 _ _ (by omega) (by omega) hR hC (fun _ ι1 a1 a2 => ?_) (fun e => by omega)⟩)
            have hF1 : Fr (fun t i j => t = 83) ι1 (up ι1 83 0 x v) := (Fr.refl _ _).u (by omega)
            have hF : Fr (fun t i j => gR t i j ∨ t = 83) ι (up ι1 83 0 x v) := (a2.wide fun t i j q => by grind).trans (hF1.wide fun t i j q => by grind)
            have key := t7 (up ι1 83 0 x v) (bi (s : Int)) v7 v8 K H (a1.fr hF1 (fun j => by omega) (by simp (disch := omega) only [up_s, up_k, up_j, up_i]; exact a1.1)) ((hC.fr a2 (fun q _ => by omega) (by omega)).fr hF1 (fun q _ => by omega) (by omega)) (fun j a b => by
              rw [up_at]; unfold fs
              by_cases q : j = x
              · rw [if_pos q, if_pos q]
              · rw [if_neg q, if_neg q, a2 83 0 j (by omega)]; exact e j a b) (fun e ι' w6 w7 w8 g1 g2 g3 => h e ι' w6 w7 w8 g1 g2 (hF.trans g3)) (fun e ι' g1 g2 g3 => hh e ι' g1 g2 (hF.trans g3))
            rw [hv1] at key
            refine bif_i (fun q => bif_i (fun q2 => ?_) (fun q2 => by omega)) (fun q => bif_i (fun q1 => bif_i (fun q2 => by omega) (fun q2 => ?_)) (fun q1 => by omega))
            · rw [if_pos q2] at key; exact ⟨by omega, by omega, key⟩
            · rw [if_neg q2] at key; exact ⟨by omega, by omega, by omega, key⟩
        · -- a run of 0s
          have hs1 : 1 ≤ (s : Int) ∧ (s : Int) ≤ 16 := by omega
          have hp2 := p2_le (k := (s : Int)) 16 (by omega) 65536 rfl
          by_cases hp : p1 + s ≤ lim
          · have hv := nm_rg (p := p1) hw.1 (s : Int).toNat
            have hp2' := p2_le (k := (((s : Int).toNat : Nat) : Int)) 16 (by omega) 65536 rfl
            by_cases hfit : x + (1 * bm_p2 s + nm β p1 (s : Int).toNat) ≤ n
            · obtain ⟨p', r, M', t1, t2, t3, t4, t5, t6, t7⟩ := ih (x + (1 * bm_p2 s + nm β p1 (s : Int).toNat)) (k + 1) (p1 + s) M (by omega) (by omega) hfit (by omega) (by omega) (by omega) hp hM (fun j a b => hM0 j (by omega) b)
              refine ⟨p', r, M', by omega, t2, t3, t4, t5, ?_, ?_⟩
              · intro ι v6 K H hR hC e h
                refine e_O_fillMap_46_6 (bif_f (by omega) (bif_f (by omega) (s_fine (fun _ => bif_f (by omega) (i5 ι 72 _ _ (by omega) hR hC fun ι1 a1 a2 => ?_)) (fun e => absurd hR.2.2.1 e))))
                rw [hr] at a1
                rw [if_pos hr]
                have hF1 : Fr fR ι (up ι1 0 0 1 (p1 + s)) := a2.u (by omega)
                refine bif_f (by omega) (bif_t (by omega) ⟨⟨by omega, by omega⟩, s_number hw (by omega) (by omega) a1 ⟨by omega, by omega, bif_t hfit ⟨by omega, ?_⟩⟩⟩)
                exact t6 _ _ K H a1.to (hC.fr hF1 (fun j => by omega)) (fun j a b => by rw [hF1 46 cm j (by omega)]; exact e j a b) fun ι' g1 g2 g3 => h ι' g1 g2 ((hF1.wide fun t i j q => by grind).trans g3)
              · intro ι v6 v7 v8 K H hR hC e h hh
                refine e_M_readMap_83_34 (bif_f (by omega) ⟨by omega, i6 ι 17880 _ _ (by omega) (by omega) hR hC (fun _ ι1 a1 a2 => ?_) (fun e => by omega)⟩)
                have hF1 : Fr gR ι (up ι1 13 0 16 (p1 + s)) := a2.u (by omega)
                refine bif_f (by omega) (bif_f (by omega) ⟨⟨by omega, by omega⟩, m_number hw (by omega) (by omega) a1 ⟨by omega, by omega, bif_t (by omega) ?_⟩⟩)
                refine m_fill83_96 (m := (1 * bm_p2 s + nm β p1 (s : Int).toNat).toNat) (by omega) (by omega) x 0 _ (by omega) (by omega) hx0 (by omega) (fun j a b => by rw [hF1 83 0 j (by omega), e j (by omega) (by omega)]; exact hM0 j a (by omega)) fun ι2 w8 b1 b2 => ?_
                rw [show (((1 * bm_p2 s + nm β p1 (s : Int).toNat).toNat : Nat) : Int) = 1 * bm_p2 s + nm β p1 (s : Int).toNat by omega]
                have hF : Fr (fun t i j => gR t i j ∨ t = 83) ι ι2 := (hF1.wide fun t i j q => by grind).trans (b2.wide fun t i j q => by grind)
                have hR1 : mR (up ι1 13 0 16 (p1 + s)) β lim (p1 + s) := a1.to
                exact t7 ι2 _ _ _ K H (hR1.fr b2 (fun j => by omega) (by rw [b2 13 0 16 (by omega)]; exact hR1.1)) ((hC.fr hF1 (fun q _ => by omega) (by omega)).fr b2 (fun q _ => by omega) (by omega)) (fun j a b => by rw [b1, hF1 83 0 j (by omega)]; exact e j a b) (fun e ι' w6 w7 w8 g1 g2 g3 => h e ι' w6 w7 w8 g1 g2 (hF.trans g3)) (fun e ι' g1 g2 g3 => hh e ι' g1 g2 (hF.trans g3))
            · refine ⟨p1 + s, 15, M, by omega, hp, by omega, hM, fun j a b => hM0 j (by omega) b, ?_, ?_⟩
              · intro ι v6 K H hR hC e h
                refine e_O_fillMap_46_6 (bif_f (by omega) (bif_f (by omega) (s_fine (fun _ => bif_f (by omega) (i5 ι 72 _ _ (by omega) hR hC fun ι1 a1 a2 => ?_)) (fun e => absurd hR.2.2.1 e))))
                rw [hr] at a1
                rw [if_pos hr]
                have hF1 : Fr fR ι (up (up ι1 0 0 1 (p1 + s)) 0 0 3 15) := (a2.u (by omega)).u (by omega)
                refine bif_f (by omega) (bif_t (by omega) ⟨⟨by omega, by omega⟩, s_number hw (by omega) (by omega) a1 ⟨by omega, by omega, bif_f hfit (s_broken (fun _ => ⟨by omega, s_fill46_err (by simp (disch := omega) only [up_s, up_k, up_j, up_i]; omega) ?_⟩) (fun e => absurd (a1.to (q := p1 + s)).2.2.1 e))⟩⟩)
                exact h _ (hR.fr hF1 (fun j => by omega) (by simp (disch := omega) only [up_s, up_k, up_j, up_i]) (by simp (disch := omega) only [up_s, up_k, up_j, up_i])) (fun e => by omega) (hF1.wide fun t i j q => by grind)
              · intro ι v6 v7 v8 K H hR hC e h hh
                refine e_M_readMap_83_34 (bif_f (by omega) ⟨by omega, i6 ι 17880 _ _ (by omega) (by omega) hR hC (fun _ ι1 a1 a2 => ?_) (fun e => by omega)⟩)
                have hF1 : Fr gR ι (up (up ι1 13 0 16 (p1 + s)) 12 0 6 15) := (a2.u (by omega)).u (by omega)
                exact bif_f (by omega) (bif_f (by omega) ⟨⟨by omega, by omega⟩, m_number hw (by omega) (by omega) a1 ⟨by omega, by omega, bif_f (by omega) (m_fail (hh (by omega) _ (hR.fr hF1 (fun j => by omega) (by simp (disch := omega) only [up_s, up_k, up_j, up_i])) (by simp (disch := omega) only [up_s, up_k, up_j, up_i]) (hF1.wide fun t i j q => by grind)))⟩⟩)
          · refine ⟨lim, 1, M, by omega, by omega, by omega, hM, fun j a b => hM0 j (by omega) b, ?_, ?_⟩
            · intro ι v6 K H hR hC e h
              refine e_O_fillMap_46_6 (bif_f (by omega) (bif_f (by omega) (s_fine (fun _ => bif_f (by omega) (i5 ι 72 _ _ (by omega) hR hC fun ι1 a1 a2 => ?_)) (fun e => absurd hR.2.2.1 e))))
              rw [hr] at a1
              rw [if_pos hr]
              have hF1 : Fr fR ι (up (up ι1 0 0 1 lim) 0 0 3 1) := (a2.u (by omega)).u (by omega)
              have hb : up (up ι1 0 0 1 lim) 0 0 3 1 0 0 3 ≠ 0 := by simp (disch := omega) only [up_s, up_k, up_j, up_i]; omega
              have fin2 := h _ (hR.fr hF1 (fun j => by omega) (by simp (disch := omega) only [up_s, up_k, up_j, up_i]) (by simp (disch := omega) only [up_s, up_k, up_j, up_i])) (fun e => by omega) (hF1.wide fun t i j q => by grind)
              exact bif_f (by omega) (bif_t (by omega) ⟨⟨by omega, by omega⟩, s_number_end hw (by omega) a1 ⟨by omega, by omega, bif_i (fun _ => ⟨by omega, s_fill46_err hb fin2⟩) (fun _ => s_broken (fun e => absurd e hb) (fun _ => ⟨by omega, s_fill46_err hb fin2⟩))⟩⟩)
            · intro ι v6 v7 v8 K H hR hC e h hh
              refine e_M_readMap_83_34 (bif_f (by omega) ⟨by omega, i6 ι 17880 _ _ (by omega) (by omega) hR hC (fun _ ι1 a1 a2 => ?_) (fun e => by omega)⟩)
              have hF1 : Fr gR ι (up (up ι1 13 0 16 lim) 12 0 6 1) := (a2.u (by omega)).u (by omega)
              exact bif_f (by omega) (bif_f (by omega) ⟨⟨by omega, by omega⟩, m_number_end hw (by omega) (by omega) a1 (hh (by omega) _ (hR.fr hF1 (fun j => by omega) (by simp (disch := omega) only [up_s, up_k, up_j, up_i])) (by simp (disch := omega) only [up_s, up_k, up_j, up_i]) (hF1.wide fun t i j q => by grind))⟩)
      · have hr1 : r1 = 1 ∧ p1 = lim := by omega
        refine ⟨p1, 1, M, by omega, i2, by omega, hM, fun j a b => hM0 j (by omega) b, ?_, ?_⟩
        · intro ι v6 K H hR hC e h
          refine e_O_fillMap_46_6 (bif_f (by omega) (bif_f (by omega) (s_fine (fun _ => bif_f (by omega) (i5 ι 72 _ _ (by omega) hR hC fun ι1 a1 a2 => ?_)) (fun e => absurd hR.2.2.1 e))))
          rw [hr1.1] at a1
          rw [if_neg hr]
          have hF : Fr (fun t i j => fR t i j ∨ t = 46 ∧ i = cm) ι (up ι1 46 cm x (max (0 - rn) 0)) := (a2.wide fun t i j q => by grind).u (by omega)
          exact bif_t rfl ⟨by omega, by omega, by omega, by omega, s_fill46_err (by simp (disch := omega) only [up_s, up_k, up_j, up_i]; rw [a1.2.2.1]; omega) (h _ (hR.fr hF (fun j => by omega) (by simp (disch := omega) only [up_s, up_k, up_j, up_i]; exact a1.1) (by simp (disch := omega) only [up_s, up_k, up_j, up_i]; exact a1.2.2.1)) (fun e => by omega) hF)⟩
        · intro ι v6 v7 v8 K H hR hC e h hh
          exact e_M_readMap_83_34 (bif_f (by omega) ⟨by omega, i6 ι 17880 _ _ (by omega) (by omega) hR hC (fun e => absurd e hr) (fun _ ι1 a1 a2 a3 => hh (by omega) ι1 a1 a2 (a3.wide fun t i j q => by grind))⟩)

theorem s_fill47_err {K : bm_S → Prop} {H : Nat × Int → bm_S → Prop} {ι : bm_S} {cm n rn x k : Int} {v6 : bm_V} (hr : ι 0 0 3 ≠ 0) (h : K ι) : bW sc 84 6 [br 8 0, br 47 cm, bi n, bi rn, bi x, bi k, v6] [] ι (bk0 K H) :=
  e_O_fillMap_47_6 (bif_i (fun _ => h) (fun _ => bif_i (fun _ => h) (fun _ => s_fine (fun e => absurd e hr) (fun _ => bif_t rfl h))))
theorem m_fill84_96 {Q : bm_O → bm_S → Prop} {n tr rn many : Int} {v6 : bm_V} (hn : n ≤ 48) (hmy : many ≤ 1000000) : ∀ (m : Nat) (x i : Int) (ι : bm_S), i = many - m → 0 ≤ i → 0 ≤ x → x + m ≤ n → (∀ j, x ≤ j → j < x + m → ι 84 0 j = 0) →
    (∀ (ι' : bm_S) (v8 : bm_V), (∀ j, ι' 84 0 j = ι 84 0 j) → Fr (fun t i j => t = 84) ι ι' → bW sc 196 34 [br 13 0, br 84 0, bi n, bi tr, bi rn, bi (x + m), v6, bi many, v8] [] ι' Q) → bW sc 196 96 [br 13 0, br 84 0, bi n, bi tr, bi rn, bi x, v6, bi many, bi i] [] ι Q
  | 0, x, i, ι, hi, h0, hx, hx2, e, h => by
    refine e_M_readMap_84_96 (bif_t (by omega) ?_)
    have := h ι (bi i) (fun _ => rfl) (Fr.refl _ _)
    rw [show x + ((0 : Nat) : Int) = x by omega] at this
    exact this
  | m + 1, x, i, ι, hi, h0, hx, hx2, e, h => by
    refine e_M_readMap_84_96 (bif_f (by omega) ⟨by omega, by omega, by omega, ?_⟩)
    refine m_fill84_96 hn hmy m (x + 1) (i + 1) _ (by omega) (by omega) (by omega) (by omega) (fun j a b => by rw [up_at]; split; rfl; exact e j (by omega) (by omega)) fun ι' v8 g1 g2 => ?_
    rw [show x + 1 + (m : Int) = x + ((m + 1 : Nat) : Int) by omega]
    refine h ι' v8 (fun j => ?_) (((Fr.refl _ _).u rfl).trans g2)
    rw [g1, up_at]
    split
    · rename_i q; rw [q, e x (by omega) (by omega)]
    · rfl
theorem j_fill47 (hw : wfβ β lim) {n tr rn lm : Int} {LM : Int → Int} (hn : 0 ≤ n ∧ n ≤ 48) (htr : 2 ≤ tr ∧ tr ≤ 12) (hrn : 0 ≤ rn ∧ rn ≤ 16) (hO : CodeOK lm LM (tr + rn).toNat) (cm : Int) : ∀ (d : Nat) (x k p : Int) (M : Int → Int), n - x ≤ d → 0 ≤ x → x ≤ n → 0 ≤ k → k ≤ x → 0 ≤ p → p ≤ lim → (∀ j, 0 ≤ j → j < 48 → 0 ≤ M j ∧ M j < tr) → (∀ j, x ≤ j → j < 48 → M j = 0) →
    ∃ (p' r : Int) (M' : Int → Int), p ≤ p' ∧ p' ≤ lim ∧ (r = 0 ∨ 0 < r ∧ r < 18) ∧ (∀ j, 0 ≤ j → j < 48 → 0 ≤ M' j ∧ M' j < tr) ∧ (∀ j, n ≤ j → j < 48 → M' j = 0) ∧
    (∀ (ι : bm_S) (v6 : bm_V) (K : bm_S → Prop) (H : Nat × Int → bm_S → Prop), cR ι β lim p 0 → CodeC ι 72 lm LM (tr + rn).toNat → (∀ j, 0 ≤ j → j < 48 → ι 47 cm j = M j) → (∀ ι' : bm_S, cR ι' β lim p' r → (r = 0 → ∀ j, 0 ≤ j → j < 48 → ι' 47 cm j = M' j) → Fr (fun t i j => fR t i j ∨ t = 47 ∧ i = cm) ι ι' → K ι') → bW sc 84 6 [br 8 0, br 47 cm, bi n, bi rn, bi x, bi k, v6] [] ι (bk0 K H)) ∧
    (∀ (ι : bm_S) (v6 v7 v8 : bm_V) (K : bm_S → Prop) (H : Nat × Int → bm_S → Prop), mR ι β lim p → CodeM ι 17880 lm LM (tr + rn).toNat → (∀ j, 0 ≤ j → j < 48 → ι 84 0 j = M j) → (r = 0 → ∀ (ι' : bm_S) (v6 v7 v8 : bm_V), mR ι' β lim p' → (∀ j, 0 ≤ j → j < 48 → ι' 84 0 j = M' j) → Fr (fun t i j => gR t i j ∨ t = 84) ι ι' → bW sc 196 34 [br 13 0, br 84 0, bi n, bi tr, bi rn, bi n, v6, v7, v8] [] ι' (bk0 K H)) → (r ≠ 0 → ∀ ι' : bm_S, mR ι' β lim p' → ι' 12 0 6 = r → Fr (fun t i j => gR t i j ∨ t = 84) ι ι' → H (12, 0) ι') → bW sc 196 34 [br 13 0, br 84 0, bi n, bi tr, bi rn, bi x, v6, v7, v8] [] ι (bk0 K H)) := by
  intro d
  have hL72 : bm_L 22 72 = 28 := rfl
  have hcast : (((tr + rn).toNat : Nat) : Int) = tr + rn := by omega
  have fin : ∀ (x k p : Int) (M : Int → Int), x = n → 0 ≤ p → p ≤ lim → (∀ j, 0 ≤ j → j < 48 → 0 ≤ M j ∧ M j < tr) → (∀ j, x ≤ j → j < 48 → M j = 0) → _ := fun x k p M hx hp0 hp1 hM hM0 => (⟨p, 0, M, by omega, hp1, Or.inl rfl, hM, fun j a b => hM0 j (by omega) b, fun ι v6 K H hR hC e h => e_O_fillMap_47_6 (bif_i (fun _ => h ι hR (fun _ => e) (Fr.refl _ _)) (fun _ => bif_t (by omega) (h ι hR (fun _ => e) (Fr.refl _ _)))), fun ι v6 v7 v8 K H hR hC e h hh => by rw [hx]; exact h rfl ι _ _ _ hR e (Fr.refl _ _)⟩ : ∃ (p' r : Int) (M' : Int → Int), p ≤ p' ∧ p' ≤ lim ∧ (r = 0 ∨ 0 < r ∧ r < 18) ∧ (∀ j, 0 ≤ j → j < 48 → 0 ≤ M' j ∧ M' j < tr) ∧ (∀ j, n ≤ j → j < 48 → M' j = 0) ∧
    (∀ (ι : bm_S) (v6 : bm_V) (K : bm_S → Prop) (H : Nat × Int → bm_S → Prop), cR ι β lim p 0 → CodeC ι 72 lm LM (tr + rn).toNat → (∀ j, 0 ≤ j → j < 48 → ι 47 cm j = M j) → (∀ ι' : bm_S, cR ι' β lim p' r → (r = 0 → ∀ j, 0 ≤ j → j < 48 → ι' 47 cm j = M' j) → Fr (fun t i j => fR t i j ∨ t = 47 ∧ i = cm) ι ι' → K ι') → bW sc 84 6 [br 8 0, br 47 cm, bi n, bi rn, bi x, bi k, v6] [] ι (bk0 K H)) ∧
    (∀ (ι : bm_S) (v6 v7 v8 : bm_V) (K : bm_S → Prop) (H : Nat × Int → bm_S → Prop), mR ι β lim p → CodeM ι 17880 lm LM (tr + rn).toNat → (∀ j, 0 ≤ j → j < 48 → ι 84 0 j = M j) → (r = 0 → ∀ (ι' : bm_S) (v6 v7 v8 : bm_V), mR ι' β lim p' → (∀ j, 0 ≤ j → j < 48 → ι' 84 0 j = M' j) → Fr (fun t i j => gR t i j ∨ t = 84) ι ι' → bW sc 196 34 [br 13 0, br 84 0, bi n, bi tr, bi rn, bi n, v6, v7, v8] [] ι' (bk0 K H)) → (r ≠ 0 → ∀ ι' : bm_S, mR ι' β lim p' → ι' 12 0 6 = r → Fr (fun t i j => gR t i j ∨ t = 84) ι ι' → H (12, 0) ι') → bW sc 196 34 [br 13 0, br 84 0, bi n, bi tr, bi rn, bi x, v6, v7, v8] [] ι (bk0 K H)))
  induction d with
  | zero =>
    intro x k p M hd hx0 hx1 hk0 hk1 hp0 hp1 hM hM0
    exact fin x k p M (by omega) hp0 hp1 hM hM0
  | succ d ih =>
    intro x k p M hd hx0 hx1 hk0 hk1 hp0 hp1 hM hM0
    by_cases hxn : x = n
    · exact fin x k p M hxn hp0 hp1 hM hM0
    · obtain ⟨p1, r1, s, i1, i2, i3, i4, i5, i6⟩ := j_signT (sc := sc) (a := (tr + rn).toNat) hw (by omega) hO p hp0 hp1
      rw [hcast] at i6
      by_cases hr : r1 = 0
      · by_cases hs : (s : Int) = 0 ∨ rn < s
        · -- a tree
          have hv : ∃ v : Int, v = (if (s : Int) = 0 then 0 else (s : Int) - rn) ∧ 0 ≤ v ∧ v < tr := ⟨_, rfl, by split <;> omega, by split <;> omega⟩
          obtain ⟨v, hv1, hv2, hv3⟩ := hv
          obtain ⟨p', r, M', t1, t2, t3, t4, t5, t6, t7⟩ := ih (x + 1) (k + 1) p1 (fs M x v) (by omega) (by omega) (by omega) (by omega) (by omega) (by omega) i2 (fun j a b => by have := hM j a b; unfold fs; split <;> omega) (fun j a b => by rw [fs_n (by omega)]; exact hM0 j (by omega) b)
          refine ⟨p', r, M', by omega, t2, t3, t4, t5, ?_, ?_⟩
          · intro ι v6 K H hR hC e h
            refine e_O_fillMap_47_6 (bif_f (by omega) (bif_f (by omega) (s_fine (fun _ => bif_f (by omega) (i5 ι 72 _ _ (by omega) hR hC fun ι1 a1 a2 => ?_)) (fun e => absurd hR.2.2.1 e))))
            rw [hr] at a1
            rw [if_pos hr]
            have hF1 : Fr (fun t i j => t = 47 ∧ i = cm) ι1 (up ι1 47 cm x v) := (Fr.refl _ _).u (by omega)
            have hF : Fr (fun t i j => fR t i j ∨ t = 47 ∧ i = cm) ι (up ι1 47 cm x v) := (a2.wide fun t i j q => by grind).trans (hF1.wide fun t i j q => by grind)
            have key := t6 (up ι1 47 cm x v) (bi (s : Int)) K H (a1.fr hF1 (fun j => by omega) (by simp (disch := omega) only [up_s, up_k, up_j, up_i]; exact a1.1) (by simp (disch := omega) only [up_s, up_k, up_j, up_i]; exact a1.2.2.1)) ((hC.fr a2 (fun j => by omega)).fr hF1 (fun j => by omega)) (fun j a b => by
              rw [up_at]; unfold fs
              by_cases q : j = x
              · rw [if_pos q, if_pos q]
              · rw [if_neg q, if_neg q, a2 47 cm j (by omega)]; exact e j a b) fun ι' g1 g2 g3 => h ι' g1 g2 (hF.trans g3)
            have hmax : max ((s : Int) - rn) 0 = v := by rw [hv1]; split <;> omega
            rw [← hmax] at key
            exact bif_i (fun q => ⟨by omega, by omega, by omega, by omega, key⟩) (fun q => bif_f (by omega) ⟨by omega, by omega, by omega, by omega, key⟩)
          · intro ι v6 v7 v8 K H hR hC e h hh
            refine e_M_readMap_84_34 (bif_f (by omega) ⟨by omega, i6 ι 17880 _ _ (by omega) (by omega) hR hC (fun _ ι1 a1 a2 => ?_) (fun e => by omega)⟩)
            have hF1 : Fr (fun t i j => t = 84) ι1 (up ι1 84 0 x v) := (Fr.refl _ _).u (by omega)
            have hF : Fr (fun t i j => gR t i j ∨ t = 84) ι (up ι1 84 0 x v) := (a2.wide fun t i j q => by grind).trans (hF1.wide fun t i j q => by grind)
            have key := t7 (up ι1 84 0 x v) (bi (s : Int)) v7 v8 K H (a1.fr hF1 (fun j => by omega) (by simp (disch := omega) only [up_s, up_k, up_j, up_i]; exact a1.1)) ((hC.fr a2 (fun q _ => by omega) (by omega)).fr hF1 (fun q _ => by omega) (by omega)) (fun j a b => by
              rw [up_at]; unfold fs
              by_cases q : j = x
              · rw [if_pos q, if_pos q]
              · rw [if_neg q, if_neg q, a2 84 0 j (by omega)]; exact e j a b) (fun e ι' w6 w7 w8 g1 g2 g3 => h e ι' w6 w7 w8 g1 g2 (hF.trans g3)) (fun e ι' g1 g2 g3 => hh e ι' g1 g2 (hF.trans g3))
            rw [hv1] at key
            refine bif_i (fun q => bif_i (fun q2 => ?_) (fun q2 => by omega)) (fun q => bif_i (fun q1 => bif_i (fun q2 => by omega) (fun q2 => ?_)) (fun q1 => by omega))
            · rw [if_pos q2] at key; exact ⟨by omega, by omega, key⟩
            · rw [if_neg q2] at key; exact ⟨by omega, by omega, by omega, key⟩
        · -- a run of 0s
          have hs1 : 1 ≤ (s : Int) ∧ (s : Int) ≤ 16 := by omega
          have hp2 := p2_le (k := (s : Int)) 16 (by omega) 65536 rfl
          by_cases hp : p1 + s ≤ lim
          · have hv := nm_rg (p := p1) hw.1 (s : Int).toNat
            have hp2' := p2_le (k := (((s : Int).toNat : Nat) : Int)) 16 (by omega) 65536 rfl
            by_cases hfit : x + (1 * bm_p2 s + nm β p1 (s : Int).toNat) ≤ n
            · obtain ⟨p', r, M', t1, t2, t3, t4, t5, t6, t7⟩ := ih (x + (1 * bm_p2 s + nm β p1 (s : Int).toNat)) (k + 1) (p1 + s) M (by omega) (by omega) hfit (by omega) (by omega) (by omega) hp hM (fun j a b => hM0 j (by omega) b)
              refine ⟨p', r, M', by omega, t2, t3, t4, t5, ?_, ?_⟩
              · intro ι v6 K H hR hC e h
                refine e_O_fillMap_47_6 (bif_f (by omega) (bif_f (by omega) (s_fine (fun _ => bif_f (by omega) (i5 ι 72 _ _ (by omega) hR hC fun ι1 a1 a2 => ?_)) (fun e => absurd hR.2.2.1 e))))
                rw [hr] at a1
                rw [if_pos hr]
                have hF1 : Fr fR ι (up ι1 0 0 1 (p1 + s)) := a2.u (by omega)
                refine bif_f (by omega) (bif_t (by omega) ⟨⟨by omega, by omega⟩, s_number hw (by omega) (by omega) a1 ⟨by omega, by omega, bif_t hfit ⟨by omega, ?_⟩⟩⟩)
                exact t6 _ _ K H a1.to (hC.fr hF1 (fun j => by omega)) (fun j a b => by rw [hF1 47 cm j (by omega)]; exact e j a b) fun ι' g1 g2 g3 => h ι' g1 g2 ((hF1.wide fun t i j q => by grind).trans g3)
              · intro ι v6 v7 v8 K H hR hC e h hh
                refine e_M_readMap_84_34 (bif_f (by omega) ⟨by omega, i6 ι 17880 _ _ (by omega) (by omega) hR hC (fun _ ι1 a1 a2 => ?_) (fun e => by omega)⟩)
                have hF1 : Fr gR ι (up ι1 13 0 16 (p1 + s)) := a2.u (by omega)
                refine bif_f (by omega) (bif_f (by omega) ⟨⟨by omega, by omega⟩, m_number hw (by omega) (by omega) a1 ⟨by omega, by omega, bif_t (by omega) ?_⟩⟩)
                refine m_fill84_96 (m := (1 * bm_p2 s + nm β p1 (s : Int).toNat).toNat) (by omega) (by omega) x 0 _ (by omega) (by omega) hx0 (by omega) (fun j a b => by rw [hF1 84 0 j (by omega), e j (by omega) (by omega)]; exact hM0 j a (by omega)) fun ι2 w8 b1 b2 => ?_
                rw [show (((1 * bm_p2 s + nm β p1 (s : Int).toNat).toNat : Nat) : Int) = 1 * bm_p2 s + nm β p1 (s : Int).toNat by omega]
                have hF : Fr (fun t i j => gR t i j ∨ t = 84) ι ι2 := (hF1.wide fun t i j q => by grind).trans (b2.wide fun t i j q => by grind)
                have hR1 : mR (up ι1 13 0 16 (p1 + s)) β lim (p1 + s) := a1.to
                exact t7 ι2 _ _ _ K H (hR1.fr b2 (fun j => by omega) (by rw [b2 13 0 16 (by omega)]; exact hR1.1)) ((hC.fr hF1 (fun q _ => by omega) (by omega)).fr b2 (fun q _ => by omega) (by omega)) (fun j a b => by rw [b1, hF1 84 0 j (by omega)]; exact e j a b) (fun e ι' w6 w7 w8 g1 g2 g3 => h e ι' w6 w7 w8 g1 g2 (hF.trans g3)) (fun e ι' g1 g2 g3 => hh e ι' g1 g2 (hF.trans g3))
            · refine ⟨p1 + s, 15, M, by omega, hp, by omega, hM, fun j a b => hM0 j (by omega) b, ?_, ?_⟩
              · intro ι v6 K H hR hC e h
                refine e_O_fillMap_47_6 (bif_f (by omega) (bif_f (by omega) (s_fine (fun _ => bif_f (by omega) (i5 ι 72 _ _ (by omega) hR hC fun ι1 a1 a2 => ?_)) (fun e => absurd hR.2.2.1 e))))
                rw [hr] at a1
                rw [if_pos hr]
                have hF1 : Fr fR ι (up (up ι1 0 0 1 (p1 + s)) 0 0 3 15) := (a2.u (by omega)).u (by omega)
                refine bif_f (by omega) (bif_t (by omega) ⟨⟨by omega, by omega⟩, s_number hw (by omega) (by omega) a1 ⟨by omega, by omega, bif_f hfit (s_broken (fun _ => ⟨by omega, s_fill47_err (by simp (disch := omega) only [up_s, up_k, up_j, up_i]; omega) ?_⟩) (fun e => absurd (a1.to (q := p1 + s)).2.2.1 e))⟩⟩)
                exact h _ (hR.fr hF1 (fun j => by omega) (by simp (disch := omega) only [up_s, up_k, up_j, up_i]) (by simp (disch := omega) only [up_s, up_k, up_j, up_i])) (fun e => by omega) (hF1.wide fun t i j q => by grind)
              · intro ι v6 v7 v8 K H hR hC e h hh
                refine e_M_readMap_84_34 (bif_f (by omega) ⟨by omega, i6 ι 17880 _ _ (by omega) (by omega) hR hC (fun _ ι1 a1 a2 => ?_) (fun e => by omega)⟩)
                have hF1 : Fr gR ι (up (up ι1 13 0 16 (p1 + s)) 12 0 6 15) := (a2.u (by omega)).u (by omega)
                exact bif_f (by omega) (bif_f (by omega) ⟨⟨by omega, by omega⟩, m_number hw (by omega) (by omega) a1 ⟨by omega, by omega, bif_f (by omega) (m_fail (hh (by omega) _ (hR.fr hF1 (fun j => by omega) (by simp (disch := omega) only [up_s, up_k, up_j, up_i])) (by simp (disch := omega) only [up_s, up_k, up_j, up_i]) (hF1.wide fun t i j q => by grind)))⟩⟩)
          · refine ⟨lim, 1, M, by omega, by omega, by omega, hM, fun j a b => hM0 j (by omega) b, ?_, ?_⟩
            · intro ι v6 K H hR hC e h
              refine e_O_fillMap_47_6 (bif_f (by omega) (bif_f (by omega) (s_fine (fun _ => bif_f (by omega) (i5 ι 72 _ _ (by omega) hR hC fun ι1 a1 a2 => ?_)) (fun e => absurd hR.2.2.1 e))))
              rw [hr] at a1
              rw [if_pos hr]
              have hF1 : Fr fR ι (up (up ι1 0 0 1 lim) 0 0 3 1) := (a2.u (by omega)).u (by omega)
              have hb : up (up ι1 0 0 1 lim) 0 0 3 1 0 0 3 ≠ 0 := by simp (disch := omega) only [up_s, up_k, up_j, up_i]; omega
              have fin2 := h _ (hR.fr hF1 (fun j => by omega) (by simp (disch := omega) only [up_s, up_k, up_j, up_i]) (by simp (disch := omega) only [up_s, up_k, up_j, up_i])) (fun e => by omega) (hF1.wide fun t i j q => by grind)
              exact bif_f (by omega) (bif_t (by omega) ⟨⟨by omega, by omega⟩, s_number_end hw (by omega) a1 ⟨by omega, by omega, bif_i (fun _ => ⟨by omega, s_fill47_err hb fin2⟩) (fun _ => s_broken (fun e => absurd e hb) (fun _ => ⟨by omega, s_fill47_err hb fin2⟩))⟩⟩)
            · intro ι v6 v7 v8 K H hR hC e h hh
              refine e_M_readMap_84_34 (bif_f (by omega) ⟨by omega, i6 ι 17880 _ _ (by omega) (by omega) hR hC (fun _ ι1 a1 a2 => ?_) (fun e => by omega)⟩)
              have hF1 : Fr gR ι (up (up ι1 13 0 16 lim) 12 0 6 1) := (a2.u (by omega)).u (by omega)
              exact bif_f (by omega) (bif_f (by omega) ⟨⟨by omega, by omega⟩, m_number_end hw (by omega) (by omega) a1 (hh (by omega) _ (hR.fr hF1 (fun j => by omega) (by simp (disch := omega) only [up_s, up_k, up_j, up_i])) (by simp (disch := omega) only [up_s, up_k, up_j, up_i]) (hF1.wide fun t i j q => by grind))⟩)
      · have hr1 : r1 = 1 ∧ p1 = lim := by omega
        refine ⟨p1, 1, M, by omega, i2, by omega, hM, fun j a b => hM0 j (by omega) b, ?_, ?_⟩
        · intro ι v6 K H hR hC e h
          refine e_O_fillMap_47_6 (bif_f (by omega) (bif_f (by omega) (s_fine (fun _ => bif_f (by omega) (i5 ι 72 _ _ (by omega) hR hC fun ι1 a1 a2 => ?_)) (fun e => absurd hR.2.2.1 e))))
          rw [hr1.1] at a1
          rw [if_neg hr]
          have hF : Fr (fun t i j => fR t i j ∨ t = 47 ∧ i = cm) ι (up ι1 47 cm x (max (0 - rn) 0)) := (a2.wide fun t i j q => by grind).u (by omega)
          exact bif_t rfl ⟨by omega, by omega, by omega, by omega, s_fill47_err (by simp (disch := omega) only [up_s, up_k, up_j, up_i]; rw [a1.2.2.1]; omega) (h _ (hR.fr hF (fun j => by omega) (by simp (disch := omega) only [up_s, up_k, up_j, up_i]; exact a1.1) (by simp (disch := omega) only [up_s, up_k, up_j, up_i]; exact a1.2.2.1)) (fun e => by omega) hF)⟩
        · intro ι v6 v7 v8 K H hR hC e h hh
          exact e_M_readMap_84_34 (bif_f (by omega) ⟨by omega, i6 ι 17880 _ _ (by omega) (by omega) hR hC (fun e => absurd e hr) (fun _ ι1 a1 a2 a3 => hh (by omega) ι1 a1 a2 (a3.wide fun t i j q => by grind))⟩)
end MapFill
