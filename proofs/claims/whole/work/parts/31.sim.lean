-- every step of the small machine is a walk of the machine
section AmMain
variable {D : va_G} {aC : Nat → ClassId} {xa : Nat → Nat} {uv : Nat → Value} {X : Nat → Nat → Int32} {XL : Nat → Nat} {z : Nat}
theorem am_look_mem {l : List (Nat × am_Row)} {pc : Nat} {row : am_Row} (h : am_look l pc = some row) : (pc, row) ∈ l := by
  unfold am_look at h
  cases hf : l.find? (fun q => Nat.beq q.1 pc) with
  | none => rw [hf] at h; cases h
  | some q =>
    rw [hf] at h
    cases h
    have h1 := List.find?_some hf
    have h2 := List.mem_of_find?_eq_some hf
    cases Nat.eq_of_beq_eq_true h1
    exact h2
set_option maxHeartbeats 1000000 in
theorem am_simS (hok : ∀ y, y < 265 → am_mrchk y = true) (l : Launch) : ∀ n, am_Sim D aC xa uv X XL z l n := by
  intro n
  induction n with
  | zero =>
    intro y pc ls st σ r h
    cases h
  | succ n ih =>
    intro y pc ls st σ r h hy p e R s m args below meth c H locs lsA f f0 n0 sl0 hG hC hF h1 h2
    cases hrow : am_look (am_code y) pc with
    | none =>
      have h3 : am_step _ _ _ _ _ _ _ _ _ (am_look (am_code y) pc) = some r := h
      rw [hrow] at h3
      cases h3
    | some row =>
      have h3 : am_step _ _ _ _ _ _ _ _ _ (am_look (am_code y) pc) = some r := h
      rw [hrow] at h3
      have hch := hok y hy
      unfold am_mrchk at hch
      cases hmd : am_md[y]? with
      | none => rw [hmd] at hch; cases hch
      | some q =>
        obtain ⟨nm, mx, rt, o, fr, lc, hd⟩ := q
        simp only [hmd] at hch
        have h4 := List.all_eq_true.mp hch _ (am_look_mem hrow)
        simp only [Bool.and_eq_true, decide_eq_true_eq] at h4
        have hH : am_Hyp D aC xa uv X XL z l n y pc ls st σ r row p R s m args meth c H locs lsA f f0 n0 sl0 := ⟨ih, hy, hG, hC, hF, h1, h2, h4.1, ⟨_, hmd, h4.2⟩, h3⟩
        obtain ⟨i, len, w, a, b, c9, tb⟩ := row
        cases i with
        | iconst k => exact am_s_iconst hH
        | bipush k => exact am_s_bipush hH
        | sipush k => exact am_s_sipush hH
        | ldc k => exact am_s_ldc hH
        | ldc_w k => exact am_s_ldc_w hH
        | lconst k => exact am_s_lconst hH
        | ldc2_w k => exact am_s_ldc2 hH
        | aconst_null => exact am_s_null hH
        | iload_n k => exact am_s_iload_n hH
        | iload k => exact am_s_iload hH
        | aload_n k => exact am_s_aload_n hH
        | aload k => exact am_s_aload hH
        | istore_n k => exact am_s_istore_n hH
        | istore k => exact am_s_istore hH
        | astore_n k => exact am_s_astore_n hH
        | astore k => exact am_s_astore hH
        | iinc k j => exact am_s_iinc hH
        | iadd => exact am_s_iadd hH
        | isub => exact am_s_isub hH
        | imul => exact am_s_imul hH
        | iand => exact am_s_iand hH
        | ior => exact am_s_ior hH
        | ixor => exact am_s_ixor hH
        | ishl => exact am_s_ishl hH
        | ishr => exact am_s_ishr hH
        | iushr => exact am_s_iushr hH
        | idiv => exact am_s_idiv hH
        | irem => exact am_s_irem hH
        | ineg => exact am_s_ineg hH
        | i2l => exact am_s_i2l hH
        | i2b => exact am_s_i2b hH
        | dup => exact am_s_dup hH
        | dup2 => exact am_s_dup2 hH
        | dup_x1 => exact am_s_dup_x1 hH
        | goto k => exact am_s_goto hH
        | if_icmp cnd k => cases cnd with
          | eq => exact am_s_icmp_eq hH
          | ne => exact am_s_icmp_ne hH
          | lt => exact am_s_icmp_lt hH
          | ge => exact am_s_icmp_ge hH
          | gt => exact am_s_icmp_gt hH
          | le => exact am_s_icmp_le hH
        | ifCond cnd k => cases cnd with
          | eq => exact am_s_if_eq hH
          | ne => exact am_s_if_ne hH
          | lt => exact am_s_if_lt hH
          | ge => exact am_s_if_ge hH
          | gt => exact am_s_if_gt hH
          | le => exact am_s_if_le hH
        | tableswitch d lo hi offs => exact am_s_tab hH
        | lookupswitch d ps => exact am_s_look hH
        | iaload => exact am_s_iaload hH
        | baload => exact am_s_baload hH
        | aaload => exact am_s_aaload hH
        | iastore => exact am_s_iastore hH
        | bastore => exact am_s_bastore hH
        | aastore => exact am_s_aastore hH
        | arraylength => exact am_s_alen hH
        | getfield k => exact am_s_getfield hH
        | putfield k => exact am_s_putfield hH
        | getstatic k => exact am_s_getstatic hH
        | new k => exact am_s_new hH
        | newarray ty => cases ty with
          | int => exact am_s_newa_int hH
          | byte => exact am_s_newa_byte hH
          | boolean => exact am_s_newa_boolean hH
          | _ => simp [am_rchk] at h4
        | anewarray k => exact am_s_anew hH
        | invokestatic k => exact am_s_invstatic hH
        | invokevirtual k => exact am_s_invvirtual hH
        | invokespecial k => exact am_s_invspecial hH
        | athrow => exact am_s_athrow hH
        | ireturn => exact am_s_ireturn hH
        | areturn => exact am_s_areturn hH
        | return_ => exact am_s_return hH
        | _ => cases h3
end AmMain
