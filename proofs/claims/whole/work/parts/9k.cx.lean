/-! the world as the law finds it -/
section StartCx
def st_nm (t : Nat) : String := am_xn.getD (t - 200) ""
def st_tm (t : Nat) : Term := .static "BrotliWords" (st_nm t) "[I"
def st_ix (t : Nat) : Nat := [3, 30, 57, 71, 85, 106, 115, 124, 151, 178, 207].getD (t - 200) 0
def st_chk (t : Nat) : Bool := decide ((flatC narrow_1)[st_ix t]? = some (Cond.arrayOf (st_tm t) .int)) && decide ((flatC narrow_1)[st_ix t + 1]? = some (Cond.eq (.length (st_tm t)) (.int (Int32.ofNat (bt_all t).length)))) && (List.range (bt_all t).length).all (fun j => decide ((flatC narrow_1)[st_ix t + 2 + j]? = some (Cond.eq (.elem (st_tm t) (.int (Int32.ofNat j))) (.int (Int32.ofInt ((bt_all t).getD j 0)))))) && Nat.blt (bt_all t).length 100
theorem st_ok0 : st_chk 200 = true := by decide +kernel
theorem st_ok1 : st_chk 201 = true := by decide +kernel
theorem st_ok2 : st_chk 202 = true := by decide +kernel
theorem st_ok3 : st_chk 203 = true := by decide +kernel
theorem st_ok4 : st_chk 204 = true := by decide +kernel
theorem st_ok5 : st_chk 205 = true := by decide +kernel
theorem st_ok6 : st_chk 206 = true := by decide +kernel
theorem st_ok7 : st_chk 207 = true := by decide +kernel
theorem st_ok8 : st_chk 208 = true := by decide +kernel
theorem st_ok9 : st_chk 209 = true := by decide +kernel
theorem st_ok10 : st_chk 210 = true := by decide +kernel
theorem st_ly0 : Cond.laysStatic "BrotliWords" "INSERT_BASE" "[I" ∈ lw_tbl := by decide +kernel
theorem st_ly1 : Cond.laysStatic "BrotliWords" "COPY_BASE" "[I" ∈ lw_tbl := by decide +kernel
theorem st_ly2 : Cond.laysStatic "BrotliWords" "CELL_INSERT" "[I" ∈ lw_tbl := by decide +kernel
theorem st_ly3 : Cond.laysStatic "BrotliWords" "CELL_COPY" "[I" ∈ lw_tbl := by decide +kernel
theorem st_ly4 : Cond.laysStatic "BrotliWords" "MARK_ORDER" "[I" ∈ lw_tbl := by decide +kernel
theorem st_ly5 : Cond.laysStatic "BrotliWords" "MARK_TOLD" "[I" ∈ lw_tbl := by decide +kernel
theorem st_ly6 : Cond.laysStatic "BrotliWords" "MARK_TOLD_BITS" "[I" ∈ lw_tbl := by decide +kernel
theorem st_ly7 : Cond.laysStatic "BrotliWords" "INSERT_BITS" "[I" ∈ lw_tbl := by decide +kernel
theorem st_ly8 : Cond.laysStatic "BrotliWords" "COPY_BITS" "[I" ∈ lw_tbl := by decide +kernel
theorem st_ly9 : Cond.laysStatic "BrotliWords" "COUNT_BASE" "[I" ∈ lw_tbl := by decide +kernel
theorem st_ly10 : Cond.laysStatic "BrotliWords" "COUNT_BITS" "[I" ∈ lw_tbl := by decide +kernel
theorem st_all {t : Nat} (ht : 200 ≤ t ∧ t < 211) : st_chk t = true ∧ Cond.laysStatic "BrotliWords" (st_nm t) "[I" ∈ lw_tbl := by
  have : t = 200 ∨ t = 201 ∨ t = 202 ∨ t = 203 ∨ t = 204 ∨ t = 205 ∨ t = 206 ∨ t = 207 ∨ t = 208 ∨ t = 209 ∨ t = 210 := by omega
  rcases this with rfl | rfl | rfl | rfl | rfl | rfl | rfl | rfl | rfl | rfl | rfl
  · exact ⟨st_ok0, st_ly0⟩
  · exact ⟨st_ok1, st_ly1⟩
  · exact ⟨st_ok2, st_ly2⟩
  · exact ⟨st_ok3, st_ly3⟩
  · exact ⟨st_ok4, st_ly4⟩
  · exact ⟨st_ok5, st_ly5⟩
  · exact ⟨st_ok6, st_ly6⟩
  · exact ⟨st_ok7, st_ly7⟩
  · exact ⟨st_ok8, st_ly8⟩
  · exact ⟨st_ok9, st_ly9⟩
  · exact ⟨st_ok10, st_ly10⟩
theorem st_i1 : Cond.initialized "BrotliWords" ∈ lw_tbl := by decide +kernel
theorem st_i2 : Cond.initialized "java/lang/Throwable" ∈ lw_tbl := by decide +kernel
theorem st_l1 : Cond.laysStatic "java/lang/Throwable" "UNASSIGNED_STACK" "[Ljava/lang/StackTraceElement;" ∈ lw_tbl := by decide +kernel
theorem st_l2 : Cond.laysStatic "java/lang/Throwable" "SUPPRESSED_SENTINEL" "Ljava/util/List;" ∈ lw_tbl := by decide +kernel
theorem st_q1 : Cond.isRef (.static "java/lang/Throwable" "UNASSIGNED_STACK" "[Ljava/lang/StackTraceElement;") ∈ flatC narrow_1 := by decide +kernel
theorem st_q2 : Cond.isRef (.static "java/lang/Throwable" "SUPPRESSED_SENTINEL" "Ljava/util/List;") ∈ flatC narrow_1 := by decide +kernel
theorem st_o1 : Cond.arrayOver (.object "BrotliWords$Code") ∈ lw_tbl := by decide +kernel
theorem st_o2 : Cond.arrayOver (.object "BrotliWords$Blocks") ∈ lw_tbl := by decide +kernel
variable {args : Array Value} {s : State}
theorem st_na (hgv : (Jvm.Cond.and given_1 narrow_1).before args s = true) : ∀ c ∈ flatC narrow_1, c.before args s = true := fun c hc => flat_of_before _ hgv c (List.mem_append_right (flatC given_1) hc)
theorem st_spec {t : Nat} (ht : 200 ≤ t ∧ t < 211) (hts : ∀ w ∈ lw_tbl, w.before args s = true) (hgv : (Jvm.Cond.and given_1 narrow_1).before args s = true) : ∃ a : Nat, am_Xt a (bt_all t).length (fun j => Int32.ofInt ((bt_all t).getD j 0)) s s.heap ∧ a < s.heap.size ∧ va_Z "BrotliWords" (st_nm t) "[I" (.ref a) (am_A s.heap.size) s s.heap := by
  obtain ⟨h1, c4⟩ := st_all ht
  unfold st_chk at h1
  simp only [Bool.and_eq_true, decide_eq_true_eq] at h1
  obtain ⟨⟨⟨c1, c2⟩, c3⟩, c5⟩ := h1
  have hs := st_na hgv
  have hl := bm_bl c5
  have hA : ∀ a : Nat, a < s.heap.size → ¬ am_A s.heap.size a := fun a ha h => Nat.not_le.mpr ha h
  obtain ⟨a, e1, e2⟩ := va_Tof (tm := st_tm t) (ty := .int) (N := (bt_all t).length) (f := fun j => .int (Int32.ofInt ((bt_all t).getD j 0))) (A := am_A s.heap.size) (Nat.lt_trans hl (by decide)) (hs _ (List.mem_of_getElem? c1)) (va_eqt (hs _ (List.mem_of_getElem? c2))) (fun j hj => va_eqt (hs _ (List.mem_of_getElem? (of_decide_eq_true (List.all_eq_true.mp c3 j (List.mem_range.mpr hj)))))) hA
  obtain ⟨cell, q1, q2, q3, q4, q5, q6, q7⟩ := e2
  exact ⟨a, ⟨cell, q1, q2, q3, q4, q5, q6⟩, Nat.not_le.mp q7, va_Zref (hts _ c4) (hts _ st_i1) e1 hA⟩
theorem st_arr {ty : FieldType} (h : (Cond.arrayClass ty).before args s = true) : ∃ cA : ClassId, ArrOfT s cA ty ∧ s.vm.findClass ("[" ++ ty.toString) = some cA := by
  obtain ⟨cA, kA, comp, h1, h2, h3⟩ := Cond.arrayClass_spec h
  exact ⟨cA, fun n z => ⟨fun k h => (by cases h), kA, h2, comp, h3⟩, h1⟩
theorem st_arrO {C : String} (h : (Cond.arrayOver (.object C)).before args s = true) : ∃ cA : ClassId, ArrOfT s cA (.object C) ∧ va_RA s cA (.object C) := by
  obtain ⟨comp, cA, kA, f4, -, f2, f3, f1⟩ := Cond.arrayOver_spec h
  exact ⟨cA, fun n z => ⟨fun k h => (by cases h), kA, f2, comp, f3⟩, kA, comp, f2, f3, f4, f1⟩
theorem start_Cx {b L : Nat} {xs : Nat → Int32} (hL : L ≤ 384) (hts : ∀ w ∈ lw_tbl, w.before args s = true) (hX : va_X b L xs s s.heap) (hbl : b < s.heap.size) (hgv : (Jvm.Cond.and given_1 narrow_1).before args s = true) : ∃ (D : va_G) (aC : Nat → ClassId) (xa : Nat → Nat) (uv : Nat → Value), am_Cx D aC xa uv (bm_X32 (L, xs)) (bm_XLn (L, xs)) s.heap.size s s.heap ∧ xa 211 = b := by
  have hts' : ∀ w ∈ am_T, w.before args s = true := fun w hw => hts w (List.mem_filter.mp hw).1
  have hA : ∀ a : Nat, a < s.heap.size → ¬ am_A s.heap.size a := fun a ha h => Nat.not_le.mpr ha h
  have hs := st_na hgv
  -- classes
  have k1 : ∀ t : Nat, ∃ q : ClassId × (Nat → Nat), ∀ r : vw_C, vwCl[t]? = some r → u_Kn s r.1 r.2.1 r.2.2 q.1 q.2 := fun t => by
    by_cases ht : t < 14
    · obtain ⟨C, T, N, hv⟩ := am_cl_some ht
      obtain ⟨hin, -, -, hinst, -, -⟩ := am_cl_spec ht hv
      obtain ⟨cC, iS, h⟩ := u_known (n := N) hts' hin (hts' _ hinst)
      exact ⟨(cC, iS), fun r hr => by cases hv.symm.trans hr; exact h⟩
    · refine ⟨(0, fun _ => 0), fun r hr => ?_⟩
      have hl : vwCl.length = 14 := rfl
      have := (List.getElem?_eq_some_iff.mp hr).1
      omega
  obtain ⟨DD, hD⟩ := Classical.axiomOfChoice k1
  -- rows
  obtain ⟨cI, i1, i2⟩ := st_arr (hts' _ am_arrI)
  obtain ⟨cB, b1, b2⟩ := st_arr (hts' _ am_arrB)
  obtain ⟨cZ, z1, z2⟩ := st_arr (hts' _ am_arrZ)
  obtain ⟨cC, o1, o2⟩ := st_arrO (hts _ st_o1)
  obtain ⟨cK, p1, p2⟩ := st_arrO (hts _ st_o2)
  have k2 : ∀ t : Nat, ∃ a : Nat, 200 ≤ t ∧ t < 211 → am_Xt a (bt_all t).length (fun j => Int32.ofInt ((bt_all t).getD j 0)) s s.heap ∧ a < s.heap.size ∧ va_Z "BrotliWords" (st_nm t) "[I" (.ref a) (am_A s.heap.size) s s.heap := fun t => by
    by_cases ht : 200 ≤ t ∧ t < 211
    · obtain ⟨a, h⟩ := st_spec ht hts hgv
      exact ⟨a, fun _ => h⟩
    · exact ⟨0, fun h => absurd h ht⟩
  obtain ⟨xs0, hxs⟩ := Classical.axiomOfChoice k2
  have k3 : ∀ {C n d : String}, va_Zq C n d (am_A s.heap.size) s s.heap → ∃ v : Value, (v = .null ∨ ∃ b, v = .ref b) ∧ va_Z C n d v (am_A s.heap.size) s s.heap := fun h => by
    rcases h with h | ⟨t, h⟩
    · exact ⟨.null, Or.inl rfl, h⟩
    · exact ⟨.ref t, Or.inr ⟨t, rfl⟩, h⟩
  obtain ⟨v1, n1, w1⟩ := k3 (va_Zqof (hts _ st_l1) (hts _ st_i2) (hs _ st_q1) hA)
  obtain ⟨v2, n2, w2⟩ := k3 (va_Zqof (hts _ st_l2) (hts _ st_i2) (hs _ st_q2) hA)
  obtain ⟨aC, q0, q1, q2, q3, q4⟩ : ∃ aC : Nat → ClassId, aC 0 = cI ∧ aC 1 = cB ∧ aC 2 = cZ ∧ aC 3 = cC ∧ aC 4 = cK := ⟨fun k => match k with | 0 => cI | 1 => cB | 2 => cZ | 3 => cC | _ => cK, rfl, rfl, rfl, rfl, rfl⟩
  obtain ⟨xa, hx1, hx2⟩ : ∃ xa : Nat → Nat, xa 211 = b ∧ ∀ t, t ≠ 211 → xa t = xs0 t := ⟨fun t => if t = 211 then b else xs0 t, if_pos rfl, fun t h => if_neg h⟩
  obtain ⟨uv, hu1, hu2, hu3⟩ : ∃ uv : Nat → Value, uv 220 = v1 ∧ uv 221 = v2 ∧ ∀ a, uv a = .null ∨ ∃ b, uv a = .ref b := ⟨fun a => if a = 220 then v1 else v2, if_pos rfl, if_neg (by omega), fun a => by
    by_cases e : a = 220
    · have e1 : (fun a => if a = 220 then v1 else v2) a = v1 := if_pos e
      rw [e1]; exact n1
    · have e1 : (fun a => if a = 220 then v1 else v2) a = v2 := if_neg e
      rw [e1]; exact n2⟩
  refine ⟨(fun k => (DD k).1, fun k => (DD k).2), aC, xa, uv, ⟨⟨fun k q hq => hD k q hq, fun k q hq => ?_⟩, fun t h1 h2 => ?_, fun a ha => ?_, Nat.le_refl _, hu3, fun w hw => ?_, va_AO.of (hts _ st_o1), va_AO.of (hts _ st_o2)⟩, hx1⟩
  · have hk : k < 5 := (List.getElem?_eq_some_iff.mp hq).1
    have : k = 0 ∨ k = 1 ∨ k = 2 ∨ k = 3 ∨ k = 4 := by omega
    rcases this with rfl | rfl | rfl | rfl | rfl
    · cases hq; exact ⟨q0 ▸ i1, q0 ▸ i2⟩
    · cases hq; exact ⟨q1 ▸ b1, q1 ▸ b2⟩
    · cases hq; exact ⟨q2 ▸ z1, q2 ▸ z2⟩
    · cases hq; exact ⟨q3 ▸ o1, q3 ▸ o2⟩
    · cases hq; exact ⟨q4 ▸ p1, q4 ▸ p2⟩
  · by_cases e : t = 211
    · subst e
      have e1 : bm_XLn (L, xs) 211 - 1 = L := by
        unfold bm_XLn
        rw [XL_211]
        show (L : Int).toNat + 1 - 1 = L
        omega
      have e2 : ∀ j : Nat, bm_X32 (L, xs) 211 j = xs j := fun j => by
        show Int32.ofInt ((xs (Int.toNat (j : Int))).toInt) = xs j
        rw [Int32.ofInt_toInt, Int.toNat_natCast]
      obtain ⟨scr, h1, h2, h3, h4, h5⟩ := hX
      rw [e1, hx1]
      refine ⟨⟨scr, h1, h2, h3, ?_, ?_, fun j hj => ?_⟩, hbl⟩
      · rw [h4]; exact Nat.le_refl _
      · rw [h4] <;> rfl
      · rw [e2]; exact h5 j hj
    · obtain ⟨g1, g2, -⟩ := hxs t ⟨h1, by omega⟩
      have eb : Nat.beq t 211 = false := bm_bf e
      have e1 : bm_XLn (L, xs) t - 1 = (bt_all t).length := by
        unfold bm_XLn bm_XL
        rw [eb]
        show ((bt_all t).length : Int).toNat + 1 - 1 = _
        omega
      have e2 : ∀ j : Nat, bm_X32 (L, xs) t j = Int32.ofInt ((bt_all t).getD j 0) := fun j => by
        unfold bm_X32 bm_X
        rw [eb]
        show Int32.ofInt ((bt_all t).getD (Int.toNat (j : Int)) 0) = _
        rw [Int.toNat_natCast]
      obtain ⟨scr, h1, h2, h3, h4, h5, h6⟩ := g1
      rw [e1, hx2 t e]
      exact ⟨⟨scr, h1, h2, h3, h4, h5, fun j hj => by rw [e2]; exact h6 j hj⟩, g2⟩
  · rcases ha with ha | rfl | rfl
    · obtain ⟨-, -, g3⟩ := hxs a ha
      have ex : am_xd a = ("BrotliWords", st_nm a, "[I") := by
        unfold am_xd
        rw [bm_bl' (show a < 220 by omega)]
        rfl
      rw [ex, bm_bl' (show a < 220 by omega), cond_true, hx2 a (by omega)]
      dsimp only
      exact g3
    · have e0 : Nat.blt 220 220 = false := rfl
      rw [e0, cond_false, hu1]
      exact w1
    · have e0 : Nat.blt 221 220 = false := rfl
      rw [e0, cond_false, hu2]
      exact w2
  · have hn := (List.mem_filter.mp hw).2
    have hm := hts w (List.mem_filter.mp hw).1
    exact va_tabs (by cases w <;> first | rfl | cases hn) rfl hm
end StartCx
