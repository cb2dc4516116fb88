/-! what the machine over Int says holds of the small machine -/
theorem bl_c {v : bm_V} {l : List bm_V} (hv : bm_vr v) (h : bm_lr l) : bm_lr (v :: l) := fun w hw => (List.mem_cons.mp hw).elim (fun e => e ▸ hv) (h w)
theorem bl_t {v : bm_V} {l : List bm_V} (h : bm_lr (v :: l)) : bm_lr l := fun w hw => h w (List.mem_cons_of_mem _ hw)
theorem bl_h {v : bm_V} {l : List bm_V} (h : bm_lr (v :: l)) : bm_vr v := h v List.mem_cons_self
theorem bl_set {l : List bm_V} {k : Nat} {v : bm_V} (h : bm_lr l) (hv : bm_vr v) : bm_lr (l.set k v) := fun w hw => by
  rcases List.mem_or_eq_of_mem_set hw with h1 | h1
  · exact h w h1
  · rw [h1]; exact hv
theorem bl_at {l : List bm_V} {k : Nat} {v : bm_V} (h : bm_lr l) (hk : l[k]? = some v) : bm_vr v := h v (List.mem_of_getElem? hk)
theorem bm_mapat {l : List bm_V} {k : Nat} {v : bm_V} (hk : l[k]? = some v) : (l.map bm_cv)[k]? = some (bm_cv v) := by rw [List.getElem?_map, hk]; rfl
section BmCases
variable {Q : bm_O → bm_S → Prop} {st ls : List bm_V} {ι : bm_S} {sc : bm_Sc}
theorem bs_bin {c : Int → Int → Prop} {f : Int → Int → Int} {g : Int32 → Int32 → Int32} {K : List bm_V → Prop} {K' : List am_V → am_R} (hs : bm_lr st)
    (hf : ∀ x y, bm_rg x → bm_rg y → c x y → g (Int32.ofInt x) (Int32.ofInt y) = Int32.ofInt (f x y) ∧ bm_rg (f x y)) (h : bm_bin c f K st) (hK : ∀ r, bm_lr r → K r → bm_R Q (K' (r.map bm_cv))) : bm_R Q (am_bin g K' (st.map bm_cv)) := by
  unfold bm_bin at h
  split at h
  · rename_i y x r
    obtain ⟨h1, h2⟩ := h
    obtain ⟨e1, e2⟩ := hf x y (bl_h (bl_t hs)) (bl_h hs) h1
    show bm_R Q (K' (av_i (g (Int32.ofInt x) (Int32.ofInt y)) :: r.map bm_cv))
    rw [e1]
    exact hK (bi (f x y) :: r) (bl_c e2 (bl_t (bl_t hs))) h2
  · exact h.elim
theorem bs_bin0 {f : Int → Int → Int} {g : Int32 → Int32 → Int32} {K : List bm_V → Prop} {K' : List am_V → am_R} (hs : bm_lr st)
    (hf : ∀ x y, g (Int32.ofInt x) (Int32.ofInt y) = Int32.ofInt (f x y) ∧ bm_rg (f x y)) (h : bm_bin0 f K st) (hK : ∀ r, bm_lr r → K r → bm_R Q (K' (r.map bm_cv))) : bm_R Q (am_bin g K' (st.map bm_cv)) := by
  unfold bm_bin0 at h
  split at h
  · rename_i y x r
    obtain ⟨e1, e2⟩ := hf x y
    show bm_R Q (K' (av_i (g (Int32.ofInt x) (Int32.ofInt y)) :: r.map bm_cv))
    rw [e1]
    exact hK (bi (f x y) :: r) (bl_c e2 (bl_t (bl_t hs))) h
  · exact h.elim
theorem bs_div {K : List bm_V → Prop} {K' : List am_V → am_R} (hs : bm_lr st) (h : bm_bin (fun x y => 0 ≤ x ∧ 0 < y) (fun x y => x / y) K st) (hK : ∀ r, bm_lr r → K r → bm_R Q (K' (r.map bm_cv))) :
    bm_R Q (match st.map bm_cv with
      | .inl y :: .inl x :: r => if y = 0 then none else K' (av_i (x / y) :: r)
      | _ => none) := by
  unfold bm_bin at h
  split at h
  · rename_i y x r
    obtain ⟨⟨h0, h1⟩, h2⟩ := h
    have hx : bm_rg x := bl_h (bl_t hs)
    have hy : bm_rg y := bl_h hs
    have hle : x / y ≤ x := Int.ediv_le_self _ h0
    have hge : 0 ≤ x / y := Int.ediv_nonneg h0 (by omega)
    have hr : bm_rg (x / y) := by omega
    have e1 : Int32.ofInt x / Int32.ofInt y = Int32.ofInt (x / y) := by
      refine Int32.toInt_inj.mp ?_
      have hne : Int32.ofInt y ≠ -1 := by
        intro h9
        have := congrArg Int32.toInt h9
        rw [bm_t hy] at this
        have h8 : (-1 : Int32).toInt = -1 := by decide
        omega
      rw [Int32.toInt_div_of_ne_right _ _ hne, bm_t hx, bm_t hy, bm_t hr, Int.tdiv_eq_ediv_of_nonneg h0]
    show bm_R Q (if Int32.ofInt y = 0 then none else K' (av_i (Int32.ofInt x / Int32.ofInt y) :: r.map bm_cv))
    rw [if_neg (by rw [bm_z, bm_eq hy bm_rz]; omega), e1]
    exact hK (bi (x / y) :: r) (bl_c hr (bl_t (bl_t hs))) h2
  · exact h.elim
theorem bs_rem {K : List bm_V → Prop} {K' : List am_V → am_R} (hs : bm_lr st) (h : bm_bin (fun x y => 0 ≤ x ∧ 0 < y) (fun x y => x % y) K st) (hK : ∀ r, bm_lr r → K r → bm_R Q (K' (r.map bm_cv))) :
    bm_R Q (match st.map bm_cv with
      | .inl y :: .inl x :: r => if y = 0 then none else K' (av_i (x - x / y * y) :: r)
      | _ => none) := by
  unfold bm_bin at h
  split at h
  · rename_i y x r
    obtain ⟨⟨h0, h1⟩, h2⟩ := h
    have hx : bm_rg x := bl_h (bl_t hs)
    have hy : bm_rg y := bl_h hs
    have hle : x / y ≤ x := Int.ediv_le_self _ h0
    have hge : 0 ≤ x / y := Int.ediv_nonneg h0 (by omega)
    have hr : bm_rg (x / y) := by omega
    have e1 : Int32.ofInt x / Int32.ofInt y = Int32.ofInt (x / y) := by
      refine Int32.toInt_inj.mp ?_
      have hne : Int32.ofInt y ≠ -1 := by
        intro h9
        have := congrArg Int32.toInt h9
        rw [bm_t hy] at this
        have h8 : (-1 : Int32).toInt = -1 := by decide
        omega
      rw [Int32.toInt_div_of_ne_right _ _ hne, bm_t hx, bm_t hy, bm_t hr, Int.tdiv_eq_ediv_of_nonneg h0]
    have hm1 := Int.emod_nonneg x (show y ≠ 0 by omega)
    have hm2 := Int.emod_lt_of_pos x h1
    have hr2 : bm_rg (x % y) := by omega
    have e2 : Int32.ofInt x - Int32.ofInt x / Int32.ofInt y * Int32.ofInt y = Int32.ofInt (x % y) := by
      rw [e1, ← Int32.ofInt_mul, ← Int32.ofInt_sub]
      congr 1
      rw [Int.emod_def, Int.mul_comm]
    show bm_R Q (if Int32.ofInt y = 0 then none else K' (av_i (Int32.ofInt x - Int32.ofInt x / Int32.ofInt y * Int32.ofInt y) :: r.map bm_cv))
    rw [if_neg (by rw [bm_z, bm_eq hy bm_rz]; omega), e2]
    exact hK (bi (x % y) :: r) (bl_c hr2 (bl_t (bl_t hs))) h2
  · exact h.elim
theorem bs_iald {K : List bm_V → Prop} {K' : List am_V → am_R} (hsc : sc.1 < 1000000) (hι : bm_sr ι) (hs : bm_lr st) (h : bm_iald sc ι K st) (hK : ∀ r, bm_lr r → K r → bm_R Q (K' (r.map bm_cv))) : bm_R Q (am_iald am_ak (bm_X32 sc) (bm_XLn sc) (bm_h ι) K' (st.map bm_cv)) := by
  unfold bm_iald at h
  split at h
  · rename_i j t i r
    have hj : bm_rg j := bl_h hs
    have hi : 0 ≤ i ∧ i < 80 ∧ (t = 1 → i < 3) := bl_h (bl_t hs)
    show bm_R Q (bif Nat.blt t 200 then (bif Nat.beq (am_ak t) 0 && am_in (Int32.ofInt j) (am_LN t i.toNat) then K' (av_i (ah_I (bm_h ι) t i.toNat (Int32.ofInt j).toNatClampNeg) :: r.map bm_cv) else none) else (bif Nat.blt t 220 && am_in (Int32.ofInt j) (bm_XLn sc t - 1) then K' (av_i (bm_X32 sc t (Int32.ofInt j).toNatClampNeg) :: r.map bm_cv) else none))
    rw [bm_nat hj]
    cases h1 : Nat.blt t 200 <;> simp only [h1, cond_true, cond_false] at h ⊢
    · cases h2 : Nat.blt t 212 <;> simp only [h2, cond_true, cond_false] at h
      obtain ⟨⟨h3, h4⟩, h5⟩ := h
      have h6 : Nat.blt t 220 = true := bm_bl' (Nat.lt_trans (bm_bl h2) (by decide))
      have hnn : 0 ≤ bm_XL sc t := by omega
      rw [h6, bm_amin hj h3 (by unfold bm_XLn; omega)]
      simp only [Bool.and_self, cond_true]
      unfold bm_X32
      rw [show ((j.toNat : Nat) : Int) = j by omega]
      refine hK (bi (bm_X sc t j) :: r) (bl_c ?_ (bl_t (bl_t hs))) h5
      show bm_rg (bm_X sc t j)
      unfold bm_X
      cases Nat.beq t 211
      · simp only [cond_false]
        unfold bt_all
        have hz : ∀ (l : List Int), (l.all fun x => decide (bm_rg x)) = true → bm_rg (l.getD j.toNat 0) := by
          intro l hl
          rw [List.getD_eq_getElem?_getD]
          cases hq : l[j.toNat]? with
          | none => exact bm_rz
          | some x => exact of_decide_eq_true (List.all_eq_true.mp hl x (List.mem_of_getElem? hq))
        refine hz _ ?_
        repeat' (refine bm_condP (fun l : List Int => (l.all fun x => decide (bm_rg x)) = true) _ _ _ (by decide +kernel) ?_)
        rfl
      · exact bm_rgt _
    · cases h2 : (Nat.beq (am_ak t) 0 && Nat.blt 19 t && Nat.blt t 108) <;> simp only [h2, cond_true, cond_false] at h
      simp only [Bool.and_eq_true] at h2
      obtain ⟨⟨h3, h4⟩, h5⟩ := h
      obtain ⟨e1, e2, e3⟩ := bm_LN (bm_bl h2.1.2) (bm_bl h2.2) hi.1 hi.2.1
      rw [h2.1.1, bm_amin hj h3 (by omega)]
      have h9 := bm_bl h2.1.2
      rw [bm_Ig (by omega) hi.1 h3]
      exact hK (bi (ι t i j) :: r) (bl_c (hι.1 t i j) (bl_t (bl_t hs))) h5
  · exact h.elim
theorem bs_bald {K : List bm_V → Prop} {K' : List am_V → am_R} (hι : bm_sr ι) (hs : bm_lr st) (h : bm_bald ι K st) (hK : ∀ r, bm_lr r → K r → bm_R Q (K' (r.map bm_cv))) : bm_R Q (am_bald am_ak (bm_h ι) K' (st.map bm_cv)) := by
  unfold bm_bald at h
  split at h
  · rename_i j t i r
    have hj : bm_rg j := bl_h hs
    have hi : 0 ≤ i ∧ i < 80 ∧ (t = 1 → i < 3) := bl_h (bl_t hs)
    show bm_R Q (bif Nat.blt t 200 && (Nat.beq (am_ak t) 1 || Nat.beq (am_ak t) 2) && am_in (Int32.ofInt j) (am_LN t i.toNat) then K' (av_i (ah_I (bm_h ι) t i.toNat (Int32.ofInt j).toNatClampNeg) :: r.map bm_cv) else none)
    rw [bm_nat hj]
    cases h2 : (Nat.blt 19 t && Nat.blt t 108 && (Nat.beq (am_ak t) 1 || Nat.beq (am_ak t) 2)) <;> simp only [h2, cond_true, cond_false] at h
    simp only [Bool.and_eq_true] at h2
    obtain ⟨⟨h3, h4⟩, h5⟩ := h
    have h8 := bm_bl h2.1.1
    have h9 := bm_bl h2.1.2
    obtain ⟨e1, e2, e3⟩ := bm_LN h8 h9 hi.1 hi.2.1
    rw [h2.2, bm_amin hj h3 (by omega), bm_bl' (show t < 200 by omega), bm_Ig (by omega) hi.1 h3]
    exact hK (bi (ι t i j) :: r) (bl_c (hι.1 t i j) (bl_t (bl_t hs))) h5
  · exact h.elim
theorem bs_aald {K : List bm_V → Prop} {K' : List am_V → am_R} (hs : bm_lr st) (h : bm_aald K st) (hK : ∀ r, bm_lr r → K r → bm_R Q (K' (r.map bm_cv))) : bm_R Q (am_aald am_ak (bm_h ι) K' (st.map bm_cv)) := by
  unfold bm_aald at h
  split at h
  · rename_i j t i r
    have hj : bm_rg j := bl_h hs
    have hi : 0 ≤ i ∧ i < 80 ∧ (t = 1 → i < 3) := bl_h (bl_t hs)
    show bm_R Q (bif Nat.blt t 200 && (Nat.beq (am_ak t) 3 || Nat.beq (am_ak t) 4) && am_in (Int32.ofInt j) (am_LN t i.toNat) then K' (av_q (ah_R (bm_h ι) t i.toNat (Int32.ofInt j).toNatClampNeg) :: r.map bm_cv) else none)
    rw [bm_nat hj]
    have key : ∀ (k n0 m : Nat) (f : Int), t = k → (19 < k ∧ k < 108 ∧ (Nat.beq (am_ak k) 3 || Nat.beq (am_ak k) 4) = true) → 0 ≤ j → j < am_LN k i.toNat → ah_R (bm_h ι) k i.toNat j.toNat = some (n0, f.toNat) → (0 ≤ f ∧ f < 80 ∧ (n0 = 1 → f < 3)) → K (br n0 f :: r) → bm_R Q (bif Nat.blt t 200 && (Nat.beq (am_ak t) 3 || Nat.beq (am_ak t) 4) && am_in (Int32.ofInt j) (am_LN t i.toNat) then K' (av_q (ah_R (bm_h ι) t i.toNat j.toNat) :: r.map bm_cv) else none) := by
      intro k n0 m f hk hkk h0 h1 hR hf h5
      subst hk
      rw [hkk.2.2, bm_amin hj h0 h1, bm_bl' (show t < 200 by omega), hR]
      exact hK (br n0 f :: r) (bl_c hf (bl_t (bl_t hs))) h5
    cases h54 : Nat.beq t 54 <;> simp only [h54, cond_true, cond_false] at h
    · cases h48 : Nat.beq t 48 <;> simp only [h48, cond_true, cond_false] at h
      · cases h49 : Nat.beq t 49 <;> simp only [h49, cond_true, cond_false] at h
        · cases h50 : Nat.beq t 50 <;> simp only [h50, cond_true, cond_false] at h
          obtain ⟨⟨h3, h4, h6⟩, h5⟩ := h
          refine key 50 3 0 _ (Nat.eq_of_beq_eq_true h50) (by decide) h3 (show j < (12 : Nat) by omega) ?_ (by omega) h5
          show (bif Nat.blt j.toNat 12 then some (3, 36 * i.toNat + 3 * j.toNat + 2) else none) = _
          rw [bm_bl' (show j.toNat < 12 by omega), show (36 * i + 3 * j + 2).toNat = 36 * i.toNat + 3 * j.toNat + 2 by omega]
          rfl
        · obtain ⟨⟨h3, h4, h6⟩, h5⟩ := h
          refine key 49 3 0 _ (Nat.eq_of_beq_eq_true h49) (by decide) h3 (show j < (12 : Nat) by omega) ?_ (by omega) h5
          show (bif Nat.blt j.toNat 12 then some (3, 36 * i.toNat + 3 * j.toNat + 1) else none) = _
          rw [bm_bl' (show j.toNat < 12 by omega), show (36 * i + 3 * j + 1).toNat = 36 * i.toNat + 3 * j.toNat + 1 by omega]
          rfl
      · obtain ⟨⟨h3, h4, h6⟩, h5⟩ := h
        refine key 48 3 0 _ (Nat.eq_of_beq_eq_true h48) (by decide) h3 (show j < (12 : Nat) by omega) ?_ (by omega) h5
        show (bif Nat.blt j.toNat 12 then some (3, 36 * i.toNat + 3 * j.toNat) else none) = _
        rw [bm_bl' (show j.toNat < 12 by omega), show (36 * i + 3 * j).toNat = 36 * i.toNat + 3 * j.toNat by omega]
        rfl
    · obtain ⟨⟨h3, h4⟩, h5⟩ := h
      refine key 54 1 0 _ (Nat.eq_of_beq_eq_true h54) (by decide) h3 (show j < (3 : Nat) by omega) ?_ (by omega) h5
      show (bif Nat.blt j.toNat 3 then some (1, j.toNat) else none) = _
      rw [bm_bl' (show j.toNat < 3 by omega)]
      rfl
  · exact h.elim
theorem bs_iast {K : List bm_V → bm_S → Prop} {K' : List am_V → am_H → am_R} (hι : bm_sr ι) (hs : bm_lr st) (h : bm_iast ι K st) (hK : ∀ r ι, bm_sr ι → bm_lr r → K r ι → bm_R Q (K' (r.map bm_cv) (bm_h ι))) : bm_R Q (am_iast am_ak (bm_h ι) K' (st.map bm_cv)) := by
  unfold bm_iast at h
  split at h
  · rename_i x j t i r
    have hx : bm_rg x := bl_h hs
    have hj : bm_rg j := bl_h (bl_t hs)
    have hi : 0 ≤ i ∧ i < 80 ∧ (t = 1 → i < 3) := bl_h (bl_t (bl_t hs))
    show bm_R Q (bif Nat.blt t 200 && Nat.beq (am_ak t) 0 && am_in (Int32.ofInt j) (am_LN t i.toNat) then K' (r.map bm_cv) (am_sI (bm_h ι) t i.toNat (Int32.ofInt j).toNatClampNeg (Int32.ofInt x)) else none)
    rw [bm_nat hj]
    cases h2 : (Nat.blt 19 t && Nat.blt t 108 && Nat.beq (am_ak t) 0) <;> simp only [h2, cond_true, cond_false] at h
    simp only [Bool.and_eq_true] at h2
    obtain ⟨⟨h3, h4⟩, h5⟩ := h
    have h8 := bm_bl h2.1.1
    have h9 := bm_bl h2.1.2
    obtain ⟨e1, e2, e3⟩ := bm_LN h8 h9 hi.1 hi.2.1
    rw [h2.2, bm_amin hj h3 (by omega), bm_bl' (show t < 200 by omega), bm_sI (by omega) hi.1 h3]
    exact hK r _ (bm_sr_up hι (by omega) hx) (bl_t (bl_t (bl_t hs))) h5
  · exact h.elim
theorem bm_narb (x : Int32) : vp_nar .byte x = x.toInt8.toInt32 := rfl
theorem bs_bast {K : List bm_V → bm_S → Prop} {K' : List am_V → am_H → am_R} (hι : bm_sr ι) (hs : bm_lr st) (h : bm_bast ι K st) (hK : ∀ r ι, bm_sr ι → bm_lr r → K r ι → bm_R Q (K' (r.map bm_cv) (bm_h ι))) : bm_R Q (am_bast am_ak (bm_h ι) K' (st.map bm_cv)) := by
  unfold bm_bast at h
  split at h
  · rename_i x j t i r
    have hx : bm_rg x := bl_h hs
    have hj : bm_rg j := bl_h (bl_t hs)
    have hi : 0 ≤ i ∧ i < 80 ∧ (t = 1 → i < 3) := bl_h (bl_t (bl_t hs))
    show bm_R Q (bif Nat.blt t 200 && (Nat.beq (am_ak t) 1 || Nat.beq (am_ak t) 2) && am_in (Int32.ofInt j) (am_LN t i.toNat) then K' (r.map bm_cv) (am_sI (bm_h ι) t i.toNat (Int32.ofInt j).toNatClampNeg (bif Nat.beq (am_ak t) 1 then vp_nar .byte (Int32.ofInt x) else vp_nar .boolean (Int32.ofInt x))) else none)
    rw [bm_nat hj]
    cases h2 : (Nat.blt 19 t && Nat.blt t 108 && Nat.beq (am_ak t) 1) <;> simp only [h2, cond_true, cond_false] at h
    · cases h22 : (Nat.blt 19 t && Nat.blt t 108 && Nat.beq (am_ak t) 2) <;> simp only [h22, cond_true, cond_false] at h
      simp only [Bool.and_eq_true] at h22
      obtain ⟨⟨h3, h4, h6⟩, h5⟩ := h
      have h8 := bm_bl h22.1.1
      have h9 := bm_bl h22.1.2
      obtain ⟨e1, e2, e3⟩ := bm_LN h8 h9 hi.1 hi.2.1
      have ha := Nat.eq_of_beq_eq_true h22.2
      have hv : vp_nar .boolean (Int32.ofInt x) = Int32.ofInt x := by rcases h6 with rfl | rfl <;> decide
      rw [ha, hv, bm_amin hj h3 (by omega), bm_bl' (show t < 200 by omega)]
      show bm_R Q (K' (r.map bm_cv) (am_sI (bm_h ι) t i.toNat j.toNat (Int32.ofInt x)))
      rw [bm_sI (by omega) hi.1 h3]
      exact hK r _ (bm_sr_up hι (by omega) hx) (bl_t (bl_t (bl_t hs))) h5
    · simp only [Bool.and_eq_true] at h2
      obtain ⟨⟨h3, h4⟩, h5⟩ := h
      have h8 := bm_bl h2.1.1
      have h9 := bm_bl h2.1.2
      obtain ⟨e1, e2, e3⟩ := bm_LN h8 h9 hi.1 hi.2.1
      have ha := Nat.eq_of_beq_eq_true h2.2
      rw [ha, bm_narb, bm_byt.1, bm_amin hj h3 (by omega), bm_bl' (show t < 200 by omega)]
      show bm_R Q (K' (r.map bm_cv) (am_sI (bm_h ι) t i.toNat j.toNat (Int32.ofInt (bm_byte x))))
      rw [bm_sI (by omega) hi.1 h3]
      exact hK r _ (bm_sr_up hι (by omega) bm_byt.2) (bl_t (bl_t (bl_t hs))) h5
  · exact h.elim
theorem bs_alen {K : List bm_V → Prop} {K' : List am_V → am_R} (hsc : sc.1 < 1000000) (hs : bm_lr st) (h : bm_alen sc K st) (hK : ∀ r, bm_lr r → K r → bm_R Q (K' (r.map bm_cv))) : bm_R Q (am_alen am_ak (bm_XLn sc) (bm_h ι) K' (st.map bm_cv)) := by
  unfold bm_alen at h
  split at h
  · rename_i t i r
    have hi : 0 ≤ i ∧ i < 80 ∧ (t = 1 → i < 3) := bl_h hs
    show bm_R Q (bif (Nat.blt t 200 && !Nat.beq (am_ak t) 9) || (Nat.blt 199 t && Nat.blt t 220 && Nat.blt 0 (bm_XLn sc t)) then K' (av_i (Int32.ofNat (bif Nat.blt t 200 then am_LN t i.toNat else bm_XLn sc t - 1)) :: r.map bm_cv) else none)
    cases h2 : (Nat.blt 19 t && Nat.blt t 108) <;> simp only [h2, cond_true, cond_false] at h
    · cases h22 : (Nat.blt 199 t && Nat.blt t 212) <;> simp only [h22, cond_true, cond_false] at h
      simp only [Bool.and_eq_true] at h22
      have h8 := bm_bl h22.1
      have h9 := bm_bl h22.2
      have h7 : Nat.blt t 200 = false := by
        cases hb : Nat.blt t 200
        · rfl
        · have := bm_bl hb; omega
      have hXL : 0 ≤ bm_XL sc t ∧ bm_XL sc t < 1000000 := by
        unfold bm_XL
        cases Nat.beq t 211
        · simp only [cond_false]
          have : (bt_all t).length < 1000 := by
            unfold bt_all
            repeat' (refine bm_condP (fun l : List Int => l.length < 1000) _ _ _ (by decide +kernel) ?_)
            decide
          omega
        · simp only [cond_true]; omega
      rw [h7, h22.1, bm_bl' (show t < 220 by omega), bm_bl' (show 0 < bm_XLn sc t by unfold bm_XLn; omega)]
      simp only [Bool.false_and, Bool.false_or, Bool.true_and, cond_true, cond_false]
      have e1 : Int32.ofNat (bm_XLn sc t - 1) = Int32.ofInt (bm_XL sc t) := by
        unfold bm_XLn
        rw [← Int32.ofInt_eq_ofNat, Nat.add_sub_cancel]
        congr 1
        omega
      rw [e1]
      exact hK (bi (bm_XL sc t) :: r) (bl_c (show bm_rg _ by omega) (bl_t hs)) h
    · simp only [Bool.and_eq_true] at h2
      have h8 := bm_bl h2.1
      have h9 := bm_bl h2.2
      obtain ⟨e1, e2, e3⟩ := bm_LN h8 h9 hi.1 hi.2.1
      rw [bm_bl' (show t < 200 by omega), bm_ak9 h8 h9]
      simp only [Bool.not_false, Bool.and_self, Bool.true_or, cond_true]
      rw [← Int32.ofInt_eq_ofNat, e1]
      exact hK (bi (bm_L t i) :: r) (bl_c (show bm_rg _ by omega) (bl_t hs)) h
  · exact h.elim
theorem bm_RF80 : ((List.range 14).all fun t => (List.range (bif Nat.beq t 1 then 3 else 80)).all fun i => (List.range 66).all fun j => match bm_RF t (i : Int) j with
    | none => true
    | some q => decide (0 ≤ q.2) && decide (q.2 < 80) && !Nat.beq q.1 1) = true := by decide +kernel
theorem bm_RFr {t b : Nat} {i : Int} {q : Nat × Int} (ht : t < 14) (hb : b < 66) (hi : 0 ≤ i ∧ i < 80 ∧ (t = 1 → i < 3)) (h : bm_RF t i b = some q) : 0 ≤ q.2 ∧ q.2 < 80 ∧ (q.1 = 1 → q.2 < 3) := by
  have hm : i.toNat < (bif Nat.beq t 1 then 3 else 80) := by
    cases hc : Nat.beq t 1
    · simp only [cond_false]; omega
    · have := Nat.eq_of_beq_eq_true hc; simp only [cond_true]; omega
  have h1 := List.all_eq_true.mp (List.all_eq_true.mp (List.all_eq_true.mp bm_RF80 t (List.mem_range.mpr ht)) i.toNat (List.mem_range.mpr hm)) b (List.mem_range.mpr hb)
  rw [show ((i.toNat : Nat) : Int) = i by omega, h] at h1
  simp only [Bool.and_eq_true, decide_eq_true_eq] at h1
  refine ⟨h1.1.1, h1.1.2, fun e => ?_⟩
  rw [e] at h1
  exact absurd h1.2 (by decide)
theorem bm_RBn {ι : bm_S} {t i j : Nat} (h : ¬ (t = 8 ∧ i = 0 ∧ (j = 4 ∨ j = 6))) (ht : t < 16) : ah_R (bm_h ι) t i j = am_RBf t i j := by
  show am_RB _ _ t i j = _
  unfold am_RB
  have h1 : (Nat.beq t 8 && Nat.beq i 0 && Nat.beq j 4) = false := by
    cases hc : (Nat.beq t 8 && Nat.beq i 0 && Nat.beq j 4)
    · rfl
    · simp only [Bool.and_eq_true] at hc
      exact absurd ⟨Nat.eq_of_beq_eq_true hc.1.1, Nat.eq_of_beq_eq_true hc.1.2, Or.inl (Nat.eq_of_beq_eq_true hc.2)⟩ h
  have h2 : (Nat.beq t 8 && Nat.beq i 0 && Nat.beq j 6) = false := by
    cases hc : (Nat.beq t 8 && Nat.beq i 0 && Nat.beq j 6)
    · rfl
    · simp only [Bool.and_eq_true] at hc
      exact absurd ⟨Nat.eq_of_beq_eq_true hc.1.1, Nat.eq_of_beq_eq_true hc.1.2, Or.inr (Nat.eq_of_beq_eq_true hc.2)⟩ h
  rw [h1, h2, bm_bl' ht]
  rfl
theorem bs_getf {a b c : Nat} {K : List bm_V → Prop} {K' : List am_V → am_R} (hι : bm_sr ι) (hs : bm_lr st) (h : bm_getf a b c ι K st) (hK : ∀ r, bm_lr r → K r → bm_R Q (K' (r.map bm_cv))) : bm_R Q (am_getf a b c (bm_h ι) K' (st.map bm_cv)) := by
  unfold bm_getf at h
  split at h
  · rename_i t i r
    have hi : 0 ≤ i ∧ i < 80 ∧ (t = 1 → i < 3) := bl_h hs
    show bm_R Q (bif Nat.beq t a then K' ((bif Nat.beq c 1 then av_q (ah_R (bm_h ι) t i.toNat b) else av_i (ah_I (bm_h ι) t i.toNat b)) :: r.map bm_cv) else none)
    cases h2 : (Nat.beq t a && Nat.blt t 14 && Nat.blt b 66) <;> simp only [h2, cond_true, cond_false] at h
    simp only [Bool.and_eq_true] at h2
    have ht := bm_bl h2.1.2
    have hb := bm_bl h2.2
    rw [h2.1.1]
    simp only [cond_true]
    cases h3 : Nat.beq c 1 <;> simp only [h3, cond_true, cond_false] at h ⊢
    · cases h4 : (Nat.beq t 8 && (Nat.beq b 4 || Nat.beq b 6)) <;> simp only [h4, cond_true, cond_false] at h
      have h5 : ¬ (t = 8 ∧ ((b : Int) = 4 ∨ (b : Int) = 6)) := by
        intro ⟨e1, e2⟩
        subst e1
        rcases e2 with e2 | e2
        · have : b = 4 := by omega
          subst this; cases h4
        · have : b = 6 := by omega
          subst this; cases h4
      have h6 := bm_Ig (ι := ι) h5 hi.1 (show (0 : Int) ≤ b by omega)
      rw [show ((b : Int)).toNat = b by omega] at h6
      rw [h6]
      exact hK (bi (ι t i b) :: r) (bl_c (hι.1 _ _ _) (bl_t hs)) h
    · cases h4 : (Nat.beq t 8 && (Nat.beq b 4 || Nat.beq b 6)) <;> simp only [h4, cond_true, cond_false] at h
      · have h5 : ¬ (t = 8 ∧ i.toNat = 0 ∧ (b = 4 ∨ b = 6)) := by
          intro ⟨e1, _, e2⟩
          subst e1
          rcases e2 with rfl | rfl <;> cases h4
        rw [bm_RBn h5 (by omega), bm_RFm hi.1]
        unfold bm_getr at h
        split at h
        · rename_i t2 i2 hq
          rw [hq]
          exact hK (br t2 i2 :: r) (bl_c (bm_RFr ht hb hi hq) (bl_t hs)) h
        · exact h.elim
      · simp only [Bool.and_eq_true, Bool.or_eq_true] at h4
        obtain ⟨e1, e2⟩ := h4
        cases Nat.eq_of_beq_eq_true e1
        obtain ⟨rfl, h⟩ := h
        rcases e2 with e2 | e2
        · cases Nat.eq_of_beq_eq_true e2
          exact hK (br 7 (ι 8 0 4) :: r) (bl_c (show 0 ≤ ι 8 0 4 ∧ ι 8 0 4 < 80 ∧ (7 = 1 → ι 8 0 4 < 3) by have := hι.2.1; omega) (bl_t hs)) h
        · cases Nat.eq_of_beq_eq_true e2
          exact hK (br 7 (ι 8 0 6) :: r) (bl_c (show 0 ≤ ι 8 0 6 ∧ ι 8 0 6 < 80 ∧ (7 = 1 → ι 8 0 6 < 3) by have := hι.2.2; omega) (bl_t hs)) h
  · exact h.elim
theorem bs_putf {a b c : Nat} {K : List bm_V → bm_S → Prop} {K' : List am_V → am_H → am_R} (hι : bm_sr ι) (hs : bm_lr st) (h : bm_putf a b c ι K st) (hK : ∀ r ι, bm_sr ι → bm_lr r → K r ι → bm_R Q (K' (r.map bm_cv) (bm_h ι))) : bm_R Q (am_putf a b c (bm_h ι) K' (st.map bm_cv)) := by
  unfold bm_putf at h
  split at h
  · rename_i x t i r
    have hx : bm_rg x := bl_h hs
    have hi : 0 ≤ i ∧ i < 80 ∧ (t = 1 → i < 3) := bl_h (bl_t hs)
    show bm_R Q (bif Nat.beq t a && (Nat.beq c 0 || (Nat.beq c 2 && (Int32.ofInt x == 0 || Int32.ofInt x == 1))) then K' (r.map bm_cv) (am_sI (bm_h ι) t i.toNat b (Int32.ofInt x)) else none)
    cases h2 : (Nat.beq t a && Nat.blt t 14 && !(Nat.beq t 8 && (Nat.beq b 4 || Nat.beq b 6))) <;> simp only [h2, cond_true, cond_false] at h
    simp only [Bool.and_eq_true, Bool.not_eq_true'] at h2
    have h4 := h2.2
    have h5 : ¬ (t = 8 ∧ ((b : Int) = 4 ∨ (b : Int) = 6)) := by
      intro ⟨e1, e2⟩
      subst e1
      rcases e2 with e2 | e2
      · have : b = 4 := by omega
        subst this; cases h4
      · have : b = 6 := by omega
        subst this; cases h4
    have h6 := bm_sI (ι := ι) (x := x) h5 hi.1 (show (0 : Int) ≤ b by omega)
    rw [show ((b : Int)).toNat = b by omega] at h6
    rw [h2.1.1, h6]
    cases h3 : Nat.beq c 0 <;> simp only [h3, cond_true, cond_false] at h ⊢
    · cases h7 : Nat.beq c 2 <;> simp only [h7, cond_true, cond_false] at h ⊢
      obtain ⟨h8, h⟩ := h
      have h9 : (Int32.ofInt x == 0 || Int32.ofInt x == 1) = true := by rcases h8 with rfl | rfl <;> decide
      rw [h9]
      exact hK r _ (bm_sr_up hι h5 hx) (bl_t (bl_t hs)) h
    · exact hK r _ (bm_sr_up hι h5 hx) (bl_t (bl_t hs)) h
  · rename_i q t i r
    have hq : 0 ≤ q.2 ∧ q.2 < 80 ∧ (q.1 = 1 → q.2 < 3) := bl_h hs
    have hi : 0 ≤ i ∧ i < 80 ∧ (t = 1 → i < 3) := bl_h (bl_t hs)
    show bm_R Q (bif Nat.beq t a && Nat.beq c 1 then K' (r.map bm_cv) (am_sR (bm_h ι) t i.toNat b (some (q.1, q.2.toNat))) else none)
    cases h2 : (Nat.beq t a && Nat.beq t 8 && (Nat.beq b 4 || Nat.beq b 6) && Nat.beq c 1) <;> simp only [h2, cond_true, cond_false] at h
    simp only [Bool.and_eq_true, Bool.or_eq_true] at h2
    obtain ⟨⟨rfl, h4, h5⟩, h6⟩ := h
    obtain ⟨⟨⟨e1, e2⟩, e3⟩, e4⟩ := h2
    rw [e1, e4, h4]
    cases Nat.eq_of_beq_eq_true e2
    have key : bm_rg q.2 := by omega
    rcases e3 with e3 | e3
    · cases Nat.eq_of_beq_eq_true e3
      show bm_R Q (K' (r.map bm_cv) (am_sR (bm_h ι) 8 0 4 (some (7, q.2.toNat))))
      rw [bm_sR4]
      refine hK r _ ⟨fun t' i' j' => ?_, ?_, hι.2.2⟩ (bl_t (bl_t hs)) h6
      · unfold up; split
        · exact key
        · exact hι.1 _ _ _
      · exact ⟨hq.1, h5⟩
    · cases Nat.eq_of_beq_eq_true e3
      show bm_R Q (K' (r.map bm_cv) (am_sR (bm_h ι) 8 0 6 (some (7, q.2.toNat))))
      rw [bm_sR6]
      refine hK r _ ⟨fun t' i' j' => ?_, hι.2.1, ?_⟩ (bl_t (bl_t hs)) h6
      · unfold up; split
        · exact key
        · exact hι.1 _ _ _
      · exact ⟨hq.1, h5⟩
  · exact h.elim
theorem bs_ldi {k : Nat} {K : bm_V → Prop} {K' : am_V → am_R} (hl : bm_lr ls) (h : bm_ldi ls k K) (hK : ∀ v, bm_vr v → K v → bm_R Q (K' (bm_cv v))) : bm_R Q (am_ldi (ls.map bm_cv) k K') := by
  unfold bm_ldi at h
  split at h
  · rename_i x hx
    unfold am_ldi
    rw [bm_mapat hx]
    exact hK (bi x) (bl_at hl hx) h
  · exact h.elim
theorem bs_lda {k : Nat} {K : bm_V → Prop} {K' : am_V → am_R} (hl : bm_lr ls) (h : bm_lda ls k K) (hK : ∀ v, bm_vr v → K v → bm_R Q (K' (bm_cv v))) : bm_R Q (am_lda (ls.map bm_cv) k K') := by
  unfold bm_lda at h
  split at h
  · rename_i q hx
    unfold am_lda
    rw [bm_mapat hx]
    exact hK (.inr (.inr q)) (bl_at hl hx) h
  · exact h.elim
theorem bs_sti {k : Nat} {K : List bm_V → List bm_V → Prop} {K' : List am_V → List am_V → am_R} (hl : bm_lr ls) (hs : bm_lr st) (h : bm_sti ls k K st) (hK : ∀ l r, bm_lr l → bm_lr r → K l r → bm_R Q (K' (l.map bm_cv) (r.map bm_cv))) : bm_R Q (am_sti (ls.map bm_cv) k K' (st.map bm_cv)) := by
  unfold bm_sti at h
  split at h
  · rename_i x r
    show bm_R Q (bif Nat.blt k (ls.map bm_cv).length then K' ((ls.map bm_cv).set k (bm_cv (bi x))) (r.map bm_cv) else none)
    rw [List.length_map, ← List.map_set]
    cases h2 : Nat.blt k ls.length <;> simp only [h2, cond_true, cond_false] at h ⊢
    exact hK _ r (bl_set hl (bl_h hs)) (bl_t hs) h
  · exact h.elim
theorem bs_sta {k : Nat} {K : List bm_V → List bm_V → Prop} {K' : List am_V → List am_V → am_R} (hl : bm_lr ls) (hs : bm_lr st) (h : bm_sta ls k K st) (hK : ∀ l r, bm_lr l → bm_lr r → K l r → bm_R Q (K' (l.map bm_cv) (r.map bm_cv))) : bm_R Q (am_sta (ls.map bm_cv) k K' (st.map bm_cv)) := by
  unfold bm_sta at h
  split at h
  · rename_i q r
    show bm_R Q (bif Nat.blt k (ls.map bm_cv).length then K' ((ls.map bm_cv).set k (bm_cv (.inr (.inr q)))) (r.map bm_cv) else none)
    rw [List.length_map, ← List.map_set]
    cases h2 : Nat.blt k ls.length <;> simp only [h2, cond_true, cond_false] at h ⊢
    exact hK _ r (bl_set hl (bl_h hs)) (bl_t hs) h
  · exact h.elim
theorem bs_inc {k : Nat} {w : Int32} {K : List bm_V → Prop} {K' : List am_V → am_R} (hl : bm_lr ls) (h : bm_inc ls k w.toInt K) (hK : ∀ l, bm_lr l → K l → bm_R Q (K' (l.map bm_cv))) : bm_R Q (am_inc (ls.map bm_cv) k w K') := by
  unfold bm_inc at h
  split at h
  · rename_i x hx
    unfold am_inc
    rw [bm_mapat hx]
    show bm_R Q (K' ((ls.map bm_cv).set k (av_i (Int32.ofInt x + w))))
    have e1 : Int32.ofInt x + w = Int32.ofInt (x + w.toInt) := by rw [Int32.ofInt_add, Int32.ofInt_toInt]
    rw [e1, show av_i (Int32.ofInt (x + w.toInt)) = bm_cv (bi (x + w.toInt)) from rfl, ← List.map_set]
    exact hK _ (bl_set hl h.1) h.2
  · exact h.elim
theorem bs_cmp2 {p : Int → Int → Prop → Prop → Prop} {p' : Int32 → Int32 → am_R → am_R → am_R} {kt kf : List bm_V → Prop} {kt' kf' : List am_V → am_R} (hs : bm_lr st)
    (hp : ∀ x y A B A' B', bm_rg x → bm_rg y → p x y A B → (A → bm_R Q A') → (B → bm_R Q B') → bm_R Q (p' (Int32.ofInt x) (Int32.ofInt y) A' B'))
    (h : bm_cmp2 p kt kf st) (hT : ∀ r, bm_lr r → kt r → bm_R Q (kt' (r.map bm_cv))) (hF : ∀ r, bm_lr r → kf r → bm_R Q (kf' (r.map bm_cv))) : bm_R Q (am_cmp2 p' kt' kf' (st.map bm_cv)) := by
  unfold bm_cmp2 at h
  split at h
  · rename_i y x r
    have hr := bl_t (bl_t hs)
    exact hp x y _ _ _ _ (bl_h (bl_t hs)) (bl_h hs) h (hT r hr) (hF r hr)
  · exact h.elim
theorem bs_cmp1 {p : Int → Prop → Prop → Prop} {p' : Int32 → am_R → am_R → am_R} {kt kf : List bm_V → Prop} {kt' kf' : List am_V → am_R} (hs : bm_lr st)
    (hp : ∀ x A B A' B', bm_rg x → p x A B → (A → bm_R Q A') → (B → bm_R Q B') → bm_R Q (p' (Int32.ofInt x) A' B'))
    (h : bm_cmp1 p kt kf st) (hT : ∀ r, bm_lr r → kt r → bm_R Q (kt' (r.map bm_cv))) (hF : ∀ r, bm_lr r → kf r → bm_R Q (kf' (r.map bm_cv))) : bm_R Q (am_cmp1 p' kt' kf' (st.map bm_cv)) := by
  unfold bm_cmp1 at h
  split at h
  · rename_i x r
    have hr := bl_t hs
    exact hp x _ _ _ _ (bl_h hs) h (hT r hr) (hF r hr)
  · exact h.elim
theorem bs_if {c c' : Prop} [Decidable c] [Decidable c'] {A B : Prop} {A' B' : am_R} (hc : c' = c) (h : if c then A else B) (hA : A → bm_R Q A') (hB : B → bm_R Q B') : bm_R Q (if c' then A' else B') := by
  by_cases h1 : c
  · rw [if_pos h1] at h; rw [if_pos (hc ▸ h1)]; exact hA h
  · rw [if_neg h1] at h; rw [if_neg (hc ▸ h1)]; exact hB h
theorem bs_sw {x : Int} {K : Nat → Prop} {K' : Nat → am_R} {d : Nat} (hx : bm_rg x) (hK : ∀ q, K q → bm_R Q (K' q)) : ∀ (tb : List (Int32 × Nat)), bm_sw x K d tb → bm_R Q (am_sw (Int32.ofInt x) K' d tb)
  | [], h => hK _ h
  | q :: r, h => by
    refine bs_if (c := x = q.1.toInt) ?_ h (hK _) (bs_sw hx hK r)
    exact propext ⟨fun e => by rw [← e, bm_t hx], fun e => by rw [e, Int32.ofInt_toInt]⟩
theorem bm_i64 {x : Int} (h : bm_rg x) : (Int64.ofInt x).toInt = x := Int64.toInt_ofInt_of_le (by omega) (by omega)
theorem bs_inP {K : List bm_V → Prop} {K' : List am_V → am_R} (hs : bm_lr st) (h : bm_inP K st) (hK : ∀ r, bm_lr r → K r → bm_R Q (K' (r.map bm_cv))) : bm_R Q (am_inP K' (st.map bm_cv)) := by
  unfold bm_inP at h
  split at h
  · rename_i hi lo x r
    show bm_R Q (bif Nat.ble (r.map bm_cv).length 4 then K' (av_i (if Int64.ofInt lo ≤ Int64.ofInt x ∧ Int64.ofInt x ≤ Int64.ofInt hi then 1 else 0) :: r.map bm_cv) else none)
    rw [List.length_map]
    cases h2 : Nat.ble r.length 4 <;> simp only [h2, cond_true, cond_false] at h ⊢
    have hh : bm_rg hi := bl_h hs
    have hl : bm_rg lo := bl_h (bl_t hs)
    have hx : bm_rg x := bl_h (bl_t (bl_t hs))
    have e1 : (if Int64.ofInt lo ≤ Int64.ofInt x ∧ Int64.ofInt x ≤ Int64.ofInt hi then (1 : Int32) else 0) = Int32.ofInt (bm_in x lo hi) := by
      unfold bm_in
      simp only [Int64.le_iff_toInt_le, bm_i64 hh, bm_i64 hl, bm_i64 hx]
      split <;> decide
    rw [e1]
    refine hK (bi (bm_in x lo hi) :: r) (bl_c ?_ (bl_t (bl_t (bl_t hs)))) h
    show bm_rg (bm_in x lo hi)
    unfold bm_in
    split <;> omega
  · exact h.elim
theorem bs_b4 {f : Int → Int → Int} {g : Int32 → Int32 → Int32} {K : List bm_V → Prop} {K' : List am_V → am_R} (hs : bm_lr st)
    (hf : ∀ x y, bm_rg x → bm_rg y → g (Int32.ofInt x) (Int32.ofInt y) = Int32.ofInt (f x y) ∧ bm_rg (f x y)) (h : bm_b4 f K st) (hK : ∀ r, bm_lr r → K r → bm_R Q (K' (r.map bm_cv))) : bm_R Q (am_b4 g K' (st.map bm_cv)) := by
  unfold bm_b4 at h
  split at h
  · rename_i y x r
    obtain ⟨e1, e2⟩ := hf x y (bl_h (bl_t hs)) (bl_h hs)
    show bm_R Q (bif Nat.ble (r.map bm_cv).length 4 then K' (av_i (g (Int32.ofInt x) (Int32.ofInt y)) :: r.map bm_cv) else none)
    rw [List.length_map]
    cases h2 : Nat.ble r.length 4 <;> simp only [h2, cond_true, cond_false] at h ⊢
    rw [e1]
    exact hK (bi (f x y) :: r) (bl_c e2 (bl_t (bl_t hs))) h
  · exact h.elim
theorem bm_ent_map (n : Nat) (as : List bm_V) : (bm_ent n as).map bm_cv = am_ent n (as.map bm_cv) := by
  unfold bm_ent am_ent
  rw [List.map_append, List.map_replicate, List.length_map]
  rfl
theorem bm_recv_map (c : Nat) (as : List bm_V) : am_recv c (as.map bm_cv) = bm_recv c as := by
  rcases as with _ | ⟨v, r⟩
  · rfl
  · rcases v with x | x | ⟨t, i⟩ <;> rfl
theorem bm_nl_map (as : List bm_V) : (as.map bm_cv).all am_nl = as.all bm_nl := by
  rw [List.all_map]
  congr 1
  funext v
  rcases v with x | x | ⟨t, i⟩ <;> rfl
theorem bs_call {a b c : Nat} {tb : List (Int32 × Nat)} {K : List bm_V → bm_S → Prop} {KH : Nat → Nat × Int → bm_S → Prop} {K' : List am_V → am_H → am_R} {KH' : Nat → Nat × Nat → am_H → am_R} (hsc : sc.1 < 1000000) (hι : bm_sr ι) (hs : bm_lr st) (h : bm_call sc a b c tb st ι K KH Q)
    (hK : ∀ r ι, bm_sr ι → bm_lr r → K r ι → bm_R Q (K' (r.map bm_cv) (bm_h ι))) (hH : ∀ z q ι, bm_sr ι → bm_vr (.inr (.inr q)) → KH z q ι → bm_R Q (KH' z (q.1, q.2.toNat) (bm_h ι))) :
    bm_R Q (am_call a b c (am_fun am_ak (bm_X32 sc) (bm_XLn sc) am_code am_ml) (st.map bm_cv) (bm_h ι) (fun q r => am_aft tb (fun v σ => K' (v ++ r) σ) KH' q)) := by
  unfold bm_call at h
  unfold am_call
  rw [List.length_map, ← List.map_take, ← List.map_drop, ← List.map_reverse, bm_recv_map, bm_nl_map]
  cases h2 : (Nat.ble b st.length && Nat.ble (st.length - b) 4 && (Nat.beq c 999 || bm_recv c (st.take b).reverse) && (st.take b).all bm_nl) <;> simp only [h2, cond_true, cond_false] at h ⊢
  have hargs : bm_lr (bm_ent (am_ml a) (st.take b).reverse) := by
    intro v hv
    unfold bm_ent at hv
    rcases List.mem_append.mp hv with h3 | h3
    · exact hs v (List.mem_of_mem_take (List.mem_reverse.mp h3))
    · rw [(List.mem_replicate.mp h3).2]
      exact bm_rz
  have hdrop : bm_lr (st.drop b) := fun v hv => hs v (List.mem_of_mem_drop hv)
  have hr := h hsc hι hargs (fun v hv => by cases hv)
  obtain ⟨o, ι', h3, h4, h5, h6⟩ := hr
  rw [bm_ent_map] at h3
  have h3' : am_fun am_ak (bm_X32 sc) (bm_XLn sc) am_code am_ml a ((st.take b).reverse.map bm_cv) (bm_h ι) = some (bm_co o, bm_h ι') := h3
  rw [h3']
  have fin : ∀ (v : List bm_V), bm_lr v → K (v ++ st.drop b) ι' → bm_R Q (K' (v.map bm_cv ++ (st.drop b).map bm_cv) (bm_h ι')) := by
    intro v hv hk
    rw [← List.map_append]
    exact hK _ _ h4 (fun w hw => (List.mem_append.mp hw).elim (hv w) (hdrop w)) hk
  have one : ∀ {v : bm_V}, bm_vr v → bm_lr [v] := fun hv w hw => by rw [List.mem_singleton.mp hw]; exact hv
  have thr : ∀ q, o = .inr q → (match tb with
      | [] => bq Q
      | z :: _ => fun q ι => KH z.2 q ι) q ι' → bm_R Q (am_aft tb (fun v σ => K' (v ++ (st.drop b).map bm_cv) σ) KH' (some (bm_co o, bm_h ι'))) := by
    intro q hq hx
    subst hq
    cases tb with
    | nil => exact ⟨.inr q, ι', rfl, h4, h5, hx⟩
    | cons z t => exact hH z.2 q ι' h4 h5 hx
  unfold bm_aft at h6
  cases k0 : Nat.beq (bm_rt a) 0 <;> simp only [k0, cond_true, cond_false] at h6
  · cases k1 : Nat.beq (bm_rt a) 1 <;> simp only [k1, cond_true, cond_false] at h6
    · cases k3 : Nat.beq (bm_rt a) 3 <;> simp only [k3, cond_true, cond_false] at h6
      · rcases o with (_ | (x | x | q)) | q
        · exact h6.elim
        · exact h6.elim
        · exact h6.elim
        · exact fin [br q.1 q.2] (one h5) h6
        · exact thr q rfl h6
      · rcases o with (_ | (x | x | q)) | q
        · exact h6.elim
        · exact h6.elim
        · exact h6.elim
        · obtain ⟨t, i⟩ := q
          obtain ⟨e, h6⟩ := h6
          cases e
          exact fin [br 3 i] (one h5) h6
        · exact thr q rfl h6
    · rcases o with (_ | (x | x | q)) | q
      · exact h6.elim
      · exact fin [bi x] (one h5) h6
      · exact h6.elim
      · exact h6.elim
      · exact thr q rfl h6
  · rcases o with (_ | (x | x | q)) | q
    · exact fin [] (fun v hv => by cases hv) h6
    · exact h6.elim
    · exact h6.elim
    · exact h6.elim
    · exact thr q rfl h6
end BmCases
