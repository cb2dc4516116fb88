def am_T : List Cond := lw_tbl.filter goodWord
theorem am_T_of {w : Cond} {k : Nat} (h : lw_tbl[k]? = some w) (hg : goodWord w = true) : w ∈ am_T := List.mem_filter.mpr ⟨List.mem_of_getElem? h, hg⟩
def am_tys : List (Nat → FieldType) := [tyX0, tyX1, tyX2, tyX3, tyX4, tyX5, tyX6, tyX7, tyX8, tyX9, tyX10, tyX11, tyX12, tyX13]
def am_ty (t : Nat) : Nat → FieldType := am_tys.getD t (fun _ => .int)
def am_host (k : Nat) : String := bif Nat.beq k 1 then "BrotliWords" else "BrotliWordsModel"
def am_fchk (q : Nat × Nat × Nat × Nat × Nat × Nat × Nat) : Bool := match q with
  | (o, idx, t, sl, k, h, pos) => match vwCl[t]? with
    | none => false
    | some (_, T, N) => Nat.blt t 14 && Nat.blt sl N && Nat.beq k (am_fk t sl) && (bif Nat.beq h 0 then decide (lw_tbl[pos]? = some (.fieldLink (am_ow o) idx (T sl).1 (T sl).2.1 (T sl).2.2.1)) else decide (lw_tbl[pos]? = some (.fieldLinkNest (am_ow o) idx (T sl).1 (T sl).2.1 (T sl).2.2.1 (am_host h))))
theorem am_ft_ok0 : am_ft_0.all am_fchk = true := by decide +kernel
theorem am_ft_ok1 : am_ft_1.all am_fchk = true := by decide +kernel
theorem am_ft_ok2 : am_ft_2.all am_fchk = true := by decide +kernel
theorem am_ft_ok3 : am_ft_3.all am_fchk = true := by decide +kernel
def am_nm (y : Nat) : MethodName := ((am_md[y]?).map (fun q => q.1)).getD ⟨"", "", ""⟩
def am_mchk (q : Nat × Nat × Nat × Nat × Nat × Nat × Nat × Nat) : Bool := match q with
  | (o, idx, a, _, _, _, h, pos) =>
    let nm := bif Nat.beq a 900 then Lib.objectInit else bif Nat.beq a 901 then ⟨"BrotliWordsModel", "in", "(JJJ)Z"⟩ else bif Nat.beq a 902 then Lib.Math.max.name else bif Nat.beq a 903 then Lib.Math.min.name else am_nm a
    bif Nat.beq h 0 then decide (lw_tbl[pos]? = some (.methodLink (am_ow o) idx nm)) else decide (lw_tbl[pos]? = some (.methodLinkNest (am_ow o) idx nm (am_host h)))
theorem am_mt_ok0 : am_mt_0.all am_mchk = true := by decide +kernel
theorem am_mt_ok1 : am_mt_1.all am_mchk = true := by decide +kernel
theorem am_mt_ok2 : am_mt_2.all am_mchk = true := by decide +kernel
theorem am_mt_ok3 : am_mt_3.all am_mchk = true := by decide +kernel
theorem am_mt_ok4 : am_mt_4.all am_mchk = true := by decide +kernel
theorem am_mt_ok5 : am_mt_5.all am_mchk = true := by decide +kernel
theorem am_kt_ok : am_kt.all (fun q => decide (lw_tbl[q.2.2.2]? = some (.constant (am_ow q.1) q.2.1 q.2.2.1))) = true := by decide +kernel
theorem am_lt_ok : am_lt.all (fun q => decide (lw_tbl[q.2.2.2]? = some (.constantLong (am_ow q.1) q.2.1 q.2.2.1.toInt64))) = true := by decide +kernel
theorem am_nt_ok : am_nt.all (fun q => Nat.blt q.2.2.1 14 && decide (lw_tbl[q.2.2.2]? = some (.classLink (am_ow q.1) q.2.1 (am_ow q.2.2.1)))) = true := by decide +kernel
theorem am_at_ok : am_at.all (fun q => (Nat.beq q.2.2.1 3 || Nat.beq q.2.2.1 4) && decide (lw_tbl[q.2.2.2]? = some (.classLink (am_ow q.1) q.2.1 (am_ow (bif Nat.beq q.2.2.1 3 then 3 else 1))))) = true := by decide +kernel
def am_xd (a : Nat) : String × String × String := bif Nat.blt a 220 then ("BrotliWords", am_xn.getD (a - 200) "", "[I") else bif Nat.beq a 220 then ("java/lang/Throwable", "UNASSIGNED_STACK", "[Ljava/lang/StackTraceElement;") else ("java/lang/Throwable", "SUPPRESSED_SENTINEL", "Ljava/util/List;")
theorem am_st_ok : am_st.all (fun q => (Nat.blt 199 q.2.2.1 && (Nat.blt q.2.2.1 211 || Nat.beq q.2.2.1 220 || Nat.beq q.2.2.1 221)) && (bif Nat.beq q.2.2.2.1 0 then decide (lw_tbl[q.2.2.2.2]? = some (.fieldLink (am_ow q.1) q.2.1 (am_xd q.2.2.1).1 (am_xd q.2.2.1).2.1 (am_xd q.2.2.1).2.2)) else decide (lw_tbl[q.2.2.2.2]? = some (.fieldLinkNest (am_ow q.1) q.2.1 (am_xd q.2.2.1).1 (am_xd q.2.2.1).2.1 (am_xd q.2.2.1).2.2 (am_host q.2.2.2.1))))) = true := by decide +kernel
