theorem am_range {n k : Nat} {p : Nat → Bool} (h : (List.range n).all (fun y => p (y + k)) = true) {y : Nat} (h1 : k ≤ y) (h2 : y < k + n) : p y = true := by
  have h3 := List.all_eq_true.mp h (y - k) (List.mem_range.mpr (by omega))
  rw [show y - k + k = y by omega] at h3
  exact h3
theorem am_md_all {y : Nat} (h : y < 265) : am_mdchk y = true := by
  rcases Nat.lt_or_ge y 70 with h1 | h1
  · exact am_range (k := 0) am_md_ok0 (Nat.zero_le _) (by omega)
  rcases Nat.lt_or_ge y 140 with h2 | h2
  · exact am_range am_md_ok1 h1 (by omega)
  rcases Nat.lt_or_ge y 210 with h3 | h3
  · exact am_range am_md_ok2 h2 (by omega)
  · exact am_range am_md_ok3 h3 (by omega)
theorem am_in_app {α : Type} {p : α → Bool} {a b : List α} (ha : a.all p = true) (hb : b.all p = true) : (a ++ b).all p = true := by rw [List.all_append, ha, hb]; rfl
theorem am_ft_all : am_ft.all am_fchk = true := am_in_app am_ft_ok0 (am_in_app am_ft_ok1 (am_in_app am_ft_ok2 am_ft_ok3))
theorem am_mt_all : am_mt.all am_mchk = true := am_in_app am_mt_ok0 (am_in_app am_mt_ok1 (am_in_app am_mt_ok2 (am_in_app am_mt_ok3 (am_in_app am_mt_ok4 am_mt_ok5))))
/-- what the tables say of a field's entry -/
theorem am_ft_spec {o k a b c : Nat} {P : (Nat × Nat × Nat × Nat × Nat × Nat × Nat) → Bool} (h : am_ft.any (fun q => Nat.beq q.1 o && Nat.beq q.2.1 k && Nat.beq q.2.2.1 a && Nat.beq q.2.2.2.1 b && Nat.beq q.2.2.2.2.1 c && P q) = true) :
    ∃ C T N hh pos, vwCl[a]? = some (C, T, N) ∧ a < 14 ∧ b < N ∧ c = am_fk a b ∧ P (o, k, a, b, c, hh, pos) = true ∧
      ((hh = 0 ∧ Cond.fieldLink (am_ow o) k (T b).1 (T b).2.1 (T b).2.2.1 ∈ am_T) ∨ (hh ≠ 0 ∧ ∃ host, lw_tbl[pos]? = some (Cond.fieldLinkNest (am_ow o) k (T b).1 (T b).2.1 (T b).2.2.1 host))) := by
  obtain ⟨⟨o', k', a', b', c', hh, pos⟩, hq, h1⟩ := List.any_eq_true.mp h
  simp only [Bool.and_eq_true] at h1
  obtain ⟨⟨⟨⟨⟨e1, e2⟩, e3⟩, e4⟩, e5⟩, hP⟩ := h1
  cases Nat.eq_of_beq_eq_true e1
  cases Nat.eq_of_beq_eq_true e2
  cases Nat.eq_of_beq_eq_true e3
  cases Nat.eq_of_beq_eq_true e4
  cases Nat.eq_of_beq_eq_true e5
  have h2 := List.all_eq_true.mp am_ft_all _ hq
  unfold am_fchk at h2
  cases hv : vwCl[a]? with
  | none => simp [hv] at h2
  | some r =>
    obtain ⟨C, T, N⟩ := r
    simp only [hv, Bool.and_eq_true] at h2
    obtain ⟨⟨⟨h3, h4⟩, h5⟩, h6⟩ := h2
    refine ⟨C, T, N, hh, pos, rfl, Nat.le_of_ble_eq_true h3, Nat.le_of_ble_eq_true h4, Nat.eq_of_beq_eq_true h5, hP, ?_⟩
    cases hb : Nat.beq hh 0
    · simp only [hb, cond_false, decide_eq_true_eq] at h6
      exact Or.inr ⟨fun e => (by rw [e] at hb; cases hb), _, h6⟩
    · simp only [hb, cond_true, decide_eq_true_eq] at h6
      exact Or.inl ⟨Nat.eq_of_beq_eq_true hb, am_T_of h6 rfl⟩
theorem am_cl_spec {t : Nat} {C : String} {T : u_T} {N : Nat} (ht : t < 14) (h : vwCl[t]? = some (C, T, N)) : (∀ w ∈ u_ws C T N, w ∈ am_T) ∧ C = am_ow t ∧ N = am_nf t ∧ Cond.instantiable C N ∈ am_T ∧ Cond.initialized C ∈ am_T ∧ (∀ j, j < N → match am_ty t j with
    | .int => am_fk t j = 0
    | .boolean => am_fk t j = 2
    | .object _ => am_fk t j = 1
    | .array _ => am_fk t j = 1
    | _ => False) := by
  have h1 := List.all_eq_true.mp am_cl_ok t (List.mem_range.mpr ht)
  unfold am_clchk at h1
  rw [h] at h1
  cases hw : am_wp[t]? with
  | none => simp [hw] at h1
  | some ps =>
    cases hi : am_ip[t]? with
    | none => simp [hw, hi] at h1
    | some ip =>
      simp only [hw, hi, Bool.and_eq_true, decide_eq_true_eq] at h1
      obtain ⟨⟨⟨⟨⟨⟨h2, h3⟩, h4⟩, h5⟩, h6⟩, h7⟩, h8⟩ := h1
      have hlen : N = ps.length := Nat.eq_of_beq_eq_true h2
      refine ⟨fun w hw9 => ?_, h4, Nat.eq_of_beq_eq_true h5, am_T_of h6 rfl, am_T_of h7 rfl, fun j hj => ?_⟩
      · obtain ⟨k, hk⟩ := List.mem_iff_getElem?.mp hw9
        have hkl : k < (u_ws C T N).length := (List.getElem?_eq_some_iff.mp hk).1
        have hl2 : (u_ws C T N).length = N := by simp [u_ws]
        have hp : ∃ q, ps[k]? = some q := ⟨ps[k]'(by omega), List.getElem?_eq_getElem (by omega)⟩
        obtain ⟨q, hq⟩ := hp
        have hz : ((u_ws C T N).zip ps)[k]? = some (w, q) := List.getElem?_zip_eq_some.mpr ⟨hk, hq⟩
        have h9 := List.all_eq_true.mp h3 _ (List.mem_of_getElem? hz)
        simp only [Bool.and_eq_true, decide_eq_true_eq] at h9
        exact am_T_of h9.1 h9.2
      · have h9 := List.all_eq_true.mp h8 j (List.mem_range.mpr hj)
        revert h9
        cases am_ty t j <;> intro h9 <;> first | exact Nat.eq_of_beq_eq_true h9 | cases h9
theorem am_cl_names {t : Nat} {C : String} {T : u_T} {N : Nat} (ht : t < 14) (h : vwCl[t]? = some (C, T, N)) : (∀ a, a < N → ∀ b, b < N → a ≠ b → (T a).2.1 ≠ (T b).2.1) ∧ ∀ k, k < N → parseFieldDescriptor (T k).2.2.1 = some (am_ty t k) := by
  match t, ht, h with
  | 0, _, h => cases h; exact ⟨nmX0, tyX0_ok⟩
  | 1, _, h => cases h; exact ⟨nmX1, tyX1_ok⟩
  | 2, _, h => cases h; exact ⟨nmX2, tyX2_ok⟩
  | 3, _, h => cases h; exact ⟨nmX3, tyX3_ok⟩
  | 4, _, h => cases h; exact ⟨nmX4, tyX4_ok⟩
  | 5, _, h => cases h; exact ⟨nmX5, tyX5_ok⟩
  | 6, _, h => cases h; exact ⟨nmX6, tyX6_ok⟩
  | 7, _, h => cases h; exact ⟨nmX7, tyX7_ok⟩
  | 8, _, h => cases h; exact ⟨nmX8, tyX8_ok⟩
  | 9, _, h => cases h; exact ⟨nmX9, tyX9_ok⟩
  | 10, _, h => cases h; exact ⟨nmX10, tyX10_ok⟩
  | 11, _, h => cases h; exact ⟨nmX11, tyX11_ok⟩
  | 12, _, h => cases h; exact ⟨nmX12, tyX12_ok⟩
  | 13, _, h => cases h; exact ⟨nmX13, tyX13_ok⟩
  | t + 14, ht, _ => exact absurd ht (by omega)
theorem am_cl_some {t : Nat} (ht : t < 14) : ∃ C T N, vwCl[t]? = some (C, T, N) := by
  have hl : vwCl.length = 14 := rfl
  exact ⟨_, _, _, (List.getElem?_eq_getElem (by rw [hl]; exact ht))⟩
