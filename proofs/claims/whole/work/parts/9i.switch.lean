/-! the heap behind the constructors, seen as numbers -/
section Switch
variable {D : va_G} {aC : Nat → ClassId} {xa : Nat → Nat} {uv : Nat → Value} {z : Nat} {f : Nat → Nat} {σ τ : am_H} {H : Heap}
theorem sw_cv (e3 : ah_ad τ = ah_ad σ) (v : am_V) : am_cv xa uv f τ v = am_cv xa uv f σ v := by
  rcases v with x | x | _ | q
  · rfl
  · rfl
  · rfl
  · show am_rv xa uv f τ q = am_rv xa uv f σ q
    unfold am_rv
    rw [e3]
theorem sw_ofFn {n : Nat} {g h : Nat → Value} (e : ∀ j, j < n → g j = h j) (cI : ClassId) : arrV cI n g = arrV cI n h := by
  unfold arrV
  congr 1
  congr 1
  funext j
  exact e j.val j.isLt
theorem sw_Hr (e1 : ah_n τ = ah_n σ) (e2 : ah_al τ = ah_al σ) (e3 : ah_ad τ = ah_ad σ) (e4 : am_cnt τ = am_cnt σ)
    (hI : ∀ t i j, ¬ (t = 8 ∧ (j = 4 ∨ j = 6)) → ah_I τ t i j = ah_I σ t i j)
    (hR : ∀ k, k < ah_n σ → ∀ j, j < (bif Nat.blt (ah_al σ k).1 16 then am_nf (ah_al σ k).1 else bif Nat.blt (am_ak (ah_al σ k).1) 3 then 0 else ah_ln σ (ah_al σ k).1 (ah_al σ k).2) → ah_R τ (ah_al σ k).1 (ah_al σ k).2 j = ah_R σ (ah_al σ k).1 (ah_al σ k).2 j)
    (hln : ∀ k, k < ah_n σ → 16 ≤ (ah_al σ k).1 → ah_ln τ (ah_al σ k).1 (ah_al σ k).2 = ah_ln σ (ah_al σ k).1 (ah_al σ k).2)
    (hwf : ∀ k, k < ah_n σ → ∀ j r, ah_R τ (ah_al σ k).1 (ah_al σ k).2 j = some r → am_gq τ r ∧ (16 ≤ (ah_al σ k).1 → r.1 < 200))
    (h : am_Hr D aC xa uv z f σ H) : am_Hr D aC xa uv z f τ H := by
  obtain ⟨hP, hD, hw⟩ := h
  have hin : ∀ (k : Nat) (q : Nat × va_E), (am_ws aC xa uv f τ)[k]? = some q → k < ah_n σ ∧ q = (f k, am_ce aC xa uv f τ (ah_al σ k)) := fun k q hq => by
    have hk : k < ah_n τ := by
      have := (List.getElem?_eq_some_iff.mp hq).1
      rw [am_ws_len] at this; exact this
    rw [am_ws_get aC xa uv hk, e2] at hq
    exact ⟨e1 ▸ hk, (Option.some.inj hq).symm⟩
  refine ⟨fun k q hq => ?_, ⟨fun i j p q hp hq e => ?_, fun k q hq => ?_⟩, fun k hk => ?_⟩
  · obtain ⟨hk, rfl⟩ := hin k q hq
    have hs := hP k _ (am_ws_get aC xa uv hk)
    have hw4 := hw k hk
    have hRk := hR k hk
    have hlk := hln k hk
    revert hs hw4 hRk hlk
    generalize ah_al σ k = q
    intro hs hw4 hRk hlk
    obtain ⟨t, i⟩ := q
    unfold am_ce at hs ⊢
    cases h16 : Nat.blt t 16
    · have ht : 16 ≤ t := by
        rcases Nat.lt_or_ge t 16 with q | q
        · rw [bm_bl' q] at h16; cases h16
        · exact q
      simp only [h16, cond_false] at hs hRk ⊢
      have hl : ah_ln τ t i = ah_ln σ t i := hlk ht
      cases h3 : Nat.blt (am_ak t) 3
      · simp only [h3, cond_false] at hs hRk ⊢
        show H[f k]? = some (vp_cell (aC (am_ak t)) (ah_ln τ t i, _))
        have hs' : H[f k]? = some (vp_cell (aC (am_ak t)) (ah_ln σ t i, .inr (.inr (.inr (.inr (fun j => (ah_R σ t i j).map (fun r => f (ah_ad σ r.1 r.2)))))))) := hs
        rw [hs', hl, e3, vp_cell_q, vp_cell_q]
        congr 1
        exact sw_ofFn (fun j hj => by rw [hRk j hj]) _
      · simp only [h3, cond_true] at hs hRk ⊢
        show H[f k]? = some (vp_cell (aC (am_ak t)) (ah_ln τ t i, .inl (ah_I τ t i)))
        have hs' : H[f k]? = some (vp_cell (aC (am_ak t)) (ah_ln σ t i, .inl (ah_I σ t i))) := hs
        rw [hs', hl, show ah_I τ t i = ah_I σ t i from funext fun j => hI t i j (by omega)]
    · simp only [h16, cond_true] at hs hRk ⊢
      have he : (List.range (am_nf t)).map (am_fv xa uv f τ t i) = (List.range (am_nf t)).map (am_fv xa uv f σ t i) := List.map_congr_left fun j hj => by
        have hj := List.mem_range.mp hj
        unfold am_fv
        cases hk1 : Nat.beq (am_fk t j) 1
        · simp only [cond_false]
          rw [hI t i j (fun q => by
            have k4 : Nat.beq (am_fk 8 4) 1 = true := by decide +kernel
            have k6 : Nat.beq (am_fk 8 6) 1 = true := by decide +kernel
            rcases q with ⟨rfl, rfl | rfl⟩
            · rw [k4] at hk1; cases hk1
            · rw [k6] at hk1; cases hk1)]
        · simp only [cond_true]
          rw [hRk j hj, sw_cv e3]
      rw [he]
      exact hs
  · obtain ⟨hi, rfl⟩ := hin i p hp
    obtain ⟨hj, rfl⟩ := hin j q hq
    exact hD.1 i j _ _ (am_ws_get aC xa uv hi) (am_ws_get aC xa uv hj) e
  · obtain ⟨hk, rfl⟩ := hin k q hq
    exact hD.2 k (f k, am_ce aC xa uv f σ (ah_al σ k)) (am_ws_get aC xa uv hk)
  · rw [e1] at hk
    have a := hw k hk
    rw [e2, e3, e4]
    exact ⟨a.1, a.2.1, a.2.2.1, a.2.2.2.1, fun j r hr => hwf k hk j r hr⟩
theorem sw_beq {j c : Nat} (h : 66 ≤ j) (hc : c < 66) : Nat.beq j c = false := bm_bf (by omega)
theorem sw_blt {j c : Nat} (h : 66 ≤ j) (hc : c < 66) : Nat.blt j c = false := by
  cases e : Nat.blt j c
  · rfl
  · have := bm_bl e; omega
theorem sw_RBf {t i j : Nat} (h : 66 ≤ j) : am_RBf t i j = none := by
  unfold am_RBf
  simp (disch := omega) only [sw_beq h, sw_blt h, cond_false, Bool.cond_self]
theorem sw_RBa {t i j : Nat} (h : 66 ≤ j) : am_RBa t i j = none := by
  unfold am_RBa
  simp (disch := omega) only [sw_blt h, cond_false, Bool.cond_self]
theorem sw_RB {t i j : Nat} (h : 66 ≤ j) : am_RB 0 1 t i j = none := by
  unfold am_RB
  rw [sw_beq h (show 4 < 66 by omega), sw_beq h (show 6 < 66 by omega), Bool.and_false, cond_false, cond_false, sw_RBf h, sw_RBa h, Bool.cond_self]
theorem sw_R0 : ah_R (bm_h ι0) = am_RB 0 1 := by
  have v84 : ι0 8 0 4 = 0 := by unfold ι0; rw [if_pos ⟨rfl, rfl, rfl⟩]
  have v86 : ι0 8 0 6 = 1 := by unfold ι0; rw [if_neg (fun q => by omega), if_pos ⟨rfl, rfl, rfl⟩]
  unfold bm_h
  show am_RB (ι0 8 0 4).toNat (ι0 8 0 6).toNat = am_RB 0 1
  rw [v84, v86]
  rfl
theorem sw_I0 {t i j : Nat} (h : ¬ (t = 8 ∧ (j = 4 ∨ j = 6))) : ah_I (bm_h ι0) t i j = ah_I am_h4 t i j := by
  have e := bm_Ig (ι := ι0) (t := t) (i := (i : Int)) (j := (j : Int)) (by omega) (by omega) (by omega)
  rw [Int.toNat_natCast, Int.toNat_natCast, ι0_n (by omega), Int.toNat_natCast, Int.toNat_natCast, Int32.ofInt_toInt] at e
  exact e
theorem sw_B0 : (bm_h ι0).1 = am_B0 := rfl
theorem sw_h4 (h : am_Hr D aC xa uv z f am_h4 H) : am_Hr D aC xa uv z f (bm_h ι0) H := by
  have eB : (bm_h ι0).1 = (382, ah_al am_h4, ah_ad am_h4, am_LN, 207954, am_h4.1.2.2.2.2.2) := by rw [sw_B0]; unfold am_B0; rfl
  have ok : ∀ k, k < 382 → am_chkh k = true := fun k hk => List.all_eq_true.mp am_h4_ok k (List.mem_range.mpr hk)
  have wf : ∀ k, k < 382 → ∀ j, j < 66 → ∀ r, am_RB 0 1 (ah_al am_h4 k).1 (ah_al am_h4 k).2 j = some r → ah_ad am_h4 r.1 r.2 < 382 ∧ ah_al am_h4 (ah_ad am_h4 r.1 r.2) = r ∧ r.1 < 200 := fun k hk j hj r hr => by
    have h1 := List.all_eq_true.mp am_h4_wf k (List.mem_range.mpr hk)
    revert h1 hr
    generalize ah_al am_h4 k = q
    obtain ⟨t, i⟩ := q
    intro hr h1
    have h2 := List.all_eq_true.mp h1 j (List.mem_range.mpr hj)
    rw [hr] at h2
    exact of_decide_eq_true h2
  have hn := am_h4_n.1
  have eal : ah_al (bm_h ι0) = ah_al am_h4 := by show (bm_h ι0).1.2.1 = _; rw [eB]
  have ead : ah_ad (bm_h ι0) = ah_ad am_h4 := by show (bm_h ι0).1.2.2.1 = _; rw [eB]
  have en : ah_n (bm_h ι0) = 382 := by show (bm_h ι0).1.1 = _; rw [eB]
  have eln : ah_ln (bm_h ι0) = am_LN := by show (bm_h ι0).1.2.2.2.1 = _; rw [eB]
  refine sw_Hr (σ := am_h4) (by rw [en, hn]) eal ead ?_ (fun t i j q => sw_I0 q) (fun k hk j hj => ?_) (fun k hk h16 => ?_) (fun k hk j r hr => ?_) h
  · funext t
    unfold am_cnt
    rw [eB]
  · rw [hn] at hk
    have h1 := ok k hk
    unfold am_chkh at h1
    rw [sw_R0]
    revert h1 hj
    generalize ah_al am_h4 k = q
    obtain ⟨t, i⟩ := q
    intro hj h1
    simp only [Bool.and_eq_true] at h1
    dsimp only at hj h1 ⊢
    have hj' : j < (bif Nat.blt t 16 then am_nf t else bif Nat.blt (am_ak t) 3 then 0 else am_LN t i) := by
      have hj2 : j < (bif Nat.blt t 16 then am_nf t else bif Nat.blt (am_ak t) 3 then 0 else ah_ln am_h4 t i) := hj
      cases h16 : Nat.blt t 16
      · simp only [h16, cond_false] at hj2 h1 ⊢
        have e := Nat.eq_of_beq_eq_true h1.1
        rw [e] at hj2
        exact hj2
      · simp only [h16, cond_true] at hj2 ⊢
        exact hj2
    have h2 := List.all_eq_true.mp h1.2 j (List.mem_range.mpr hj')
    exact (of_decide_eq_true h2).symm
  · rw [hn] at hk
    have h1 := ok k hk
    unfold am_chkh at h1
    rw [eln]
    revert h1 h16
    generalize ah_al am_h4 k = q
    obtain ⟨t, i⟩ := q
    intro h16 h1
    simp only [Bool.and_eq_true] at h1
    dsimp only at h16 h1 ⊢
    have hb : Nat.blt t 16 = false := by
      cases e : Nat.blt t 16
      · rfl
      · have := bm_bl e
        have h16' : 16 ≤ t := h16
        omega
    simp only [hb, cond_false] at h1
    have e := Nat.eq_of_beq_eq_true h1.1
    exact e.symm
  · rw [hn] at hk
    rw [sw_R0] at hr
    by_cases hj : j < 66
    · have w := wf k hk j hj r hr
      exact ⟨Or.inr ⟨w.2.2, by rw [ead, en]; exact w.1, by rw [ead, eal]; exact w.2.1⟩, fun _ => w.2.2⟩
    · rw [sw_RB (by omega)] at hr; cases hr
end Switch
