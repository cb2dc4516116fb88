/-- the words of the types whose objects are made -/
def am_clchk (t : Nat) : Bool := match vwCl[t]?, am_wp[t]?, am_ip[t]? with
  | some (C, T, N), some ps, some ip => Nat.beq N ps.length && ((u_ws C T N).zip ps).all (fun q => decide (lw_tbl[q.2]? = some q.1) && goodWord q.1) && decide (C = am_ow t) && Nat.beq N (am_nf t) && decide (lw_tbl[ip.1]? = some (Cond.instantiable C N)) && decide (lw_tbl[ip.2]? = some (Cond.initialized C)) && (List.range N).all (fun j => match am_ty t j with
    | .int => Nat.beq (am_fk t j) 0
    | .boolean => Nat.beq (am_fk t j) 2
    | .object _ => Nat.beq (am_fk t j) 1
    | .array _ => Nat.beq (am_fk t j) 1
    | _ => false)
  | _, _, _ => false
theorem am_cl_ok : (List.range 14).all am_clchk = true := by decide +kernel
/-- a method's code, out of its word -/
def am_cw (y : Nat) : Option Cond := (am_mp[y]?).bind (fun q => lw_tbl[q.2.1]?)
def am_by (y : Nat) : ByteArray := bif Nat.beq y am_law then code else (match am_cw y with
  | some (.code _ b _ _) => b
  | some (.codeWith _ b _ _ _) => b
  | _ => ByteArray.empty)
/-- a method's own words: kind 0 called on an object, 1 without, 2 a constructor, 3 the law -/
def am_mdchk (y : Nat) : Bool := match am_md[y]?, am_mp[y]? with
  | some (nm, mx, rt, o, _, _, hd), some (k, p1, p2, p3, p4) => decide (nm.cls = am_ow o) && plainName nm.cls && Nat.beq mx (am_ml y) && decide (nm.cls ≠ "java/lang/invoke/MethodHandle") && decide (nm.cls ≠ "java/lang/invoke/VarHandle") && (bif Nat.beq k 3 then Nat.beq y am_law else
    !Nat.beq y am_law && (match lw_tbl[p1]? with
      | some (.code n2 _ m2 r2) => decide (n2 = nm) && Nat.beq m2 mx && decide (r2 = rt) && hd.isEmpty
      | some (.codeWith n2 _ m2 r2 h2) => decide (n2 = nm) && Nat.beq m2 mx && decide (r2 = rt) && decide (h2 = hd) && Nat.beq k 0
      | _ => false) && decide (lw_tbl[p2]? = some (.initialized nm.cls)) && (bif Nat.beq k 1 then decide (lw_tbl[p3]? = some (.static nm)) else bif Nat.beq k 2 then decide (lw_tbl[p3]? = some (.instanceMethod nm)) && decide (nm.name = "<init>") && decide (rt = none) else decide (lw_tbl[p3]? = some (.instanceMethod nm)) && decide (lw_tbl[p4]? = some (.selects nm.cls nm nm)) && Nat.blt o 14 && decide (nm.name ≠ "<init>")))
  | _, _ => false
theorem am_md_ok0 : (List.range 70).all am_mdchk = true := by decide +kernel
theorem am_md_ok1 : (List.range 70).all (fun y => am_mdchk (y + 70)) = true := by decide +kernel
theorem am_md_ok2 : (List.range 70).all (fun y => am_mdchk (y + 140)) = true := by decide +kernel
theorem am_md_ok3 : (List.range 55).all (fun y => am_mdchk (y + 210)) = true := by decide +kernel
def am_argc (y : Nat) : Nat := ((parseMethodDescriptor (am_nm y).desc).map (fun d => d.parameters.length)).getD 99
def am_mk_ (y : Nat) : Nat := ((am_mp[y]?).map (fun q => q.1)).getD 9
def am_fr (y : Nat) : Nat := ((am_md[y]?).map (fun q => q.2.2.2.2.1)).getD 99
def am_lc (y : Nat) : Nat := ((am_md[y]?).map (fun q => q.2.2.2.2.2.1)).getD 9999
/-- a call's row: o owner, k entry, v 0 virtual, 1 static, 2 special -/
def am_cachk (o k v a b c fr lc : Nat) : Bool := am_mt.any (fun q => Nat.beq q.1 o && Nat.beq q.2.1 k && Nat.beq q.2.2.1 a && Nat.beq q.2.2.2.1 b && Nat.beq q.2.2.2.2.1 c && Nat.beq q.2.2.2.2.2.1 v) && Nat.blt a am_law && (parseMethodDescriptor (am_nm a).desc).isSome && Nat.beq (am_mk_ a) v && (bif Nat.beq v 1 then Nat.beq c 999 && Nat.beq b (am_argc a) else Nat.blt c 14 && Nat.beq b (am_argc a + 1)) && (bif Nat.beq v 0 then decide (am_ow c = (am_nm a).cls) else true) && Nat.ble b (am_ml a) && Nat.ble (am_fr a + 1) fr && Nat.ble (8 + (am_ml a + 11) + am_lc a) lc
def am_tbchk (pc : Nat) (lo : Int) : List Int → List (Int32 × Nat) → Bool
  | [], [] => true
  | o :: os, q :: qs => decide (q.1.toInt = lo) && decide ((pc : Int) + o = (q.2 : Int)) && am_tbchk pc (lo + 1) os qs
  | _, _ => false
def am_lkchk (pc : Nat) : List (Int × Int) → List (Int32 × Nat) → Bool
  | [], [] => true
  | o :: os, q :: qs => decide (q.1.toInt = o.1) && decide ((pc : Int) + o.2 = (q.2 : Int)) && am_lkchk pc os qs
  | _, _ => false
def am_hdchk (pc : Nat) (hd : List (Nat × Nat × Nat × Nat)) (tb : List (Int32 × Nat)) : Bool := match hd, tb with
  | [], [] => true
  | [h], [] => !(decide (h.1 ≤ pc) && decide (pc < h.2.1))
  | [h], [z] => decide (h.1 ≤ pc) && decide (pc < h.2.1) && Nat.beq z.2 h.2.2.1 && Nat.beq h.2.2.2 12
  | _, _ => false
/-- a row against the method that it stands in: o owner, rt what is answered, fr, lc its room, ini: a constructor -/
def am_rchk (o : Nat) (rt : Option FieldType) (fr lc : Nat) (ini : Bool) (hd : List (Nat × Nat × Nat × Nat)) (pc : Nat) : am_Row → Bool
  | (i, len, w, a, b, c, tb) => match i with
    | .iconst n => Nat.beq len 1 && decide (Int32.ofInt n = w)
    | .bipush n => Nat.beq len 2 && decide ((Int8.ofInt n).toInt32 = w)
    | .sipush n => Nat.beq len 3 && decide ((Int16.ofInt n).toInt32 = w)
    | .ldc k => Nat.beq len 2 && am_kt.any (fun q => Nat.beq q.1 o && Nat.beq q.2.1 k && decide (q.2.2.1 = w))
    | .ldc_w k => Nat.beq len 3 && am_kt.any (fun q => Nat.beq q.1 o && Nat.beq q.2.1 k && decide (q.2.2.1 = w))
    | .lconst n => Nat.beq len 1 && decide (Int64.ofNat n.val = w.toInt64)
    | .ldc2_w k => Nat.beq len 3 && am_lt.any (fun q => Nat.beq q.1 o && Nat.beq q.2.1 k && decide (q.2.2.1 = w))
    | .aconst_null => Nat.beq len 1
    | .iload_n k => Nat.beq len 1 && Nat.beq a k.val
    | .iload k => Nat.beq len 2 && Nat.beq a k
    | .aload_n k => Nat.beq len 1 && Nat.beq a k.val
    | .aload k => Nat.beq len 2 && Nat.beq a k
    | .istore_n k => Nat.beq len 1 && Nat.beq a k.val
    | .istore k => Nat.beq len 2 && Nat.beq a k
    | .astore_n k => Nat.beq len 1 && Nat.beq a k.val
    | .astore k => Nat.beq len 2 && Nat.beq a k
    | .iinc k n => Nat.beq len 3 && Nat.beq a k && decide (Int32.ofInt n = w)
    | .iadd => Nat.beq len 1
    | .isub => Nat.beq len 1
    | .imul => Nat.beq len 1
    | .iand => Nat.beq len 1
    | .ior => Nat.beq len 1
    | .ixor => Nat.beq len 1
    | .ishl => Nat.beq len 1
    | .ishr => Nat.beq len 1
    | .iushr => Nat.beq len 1
    | .idiv => Nat.beq len 1
    | .irem => Nat.beq len 1
    | .ineg => Nat.beq len 1
    | .i2l => Nat.beq len 1
    | .i2b => Nat.beq len 1
    | .dup => Nat.beq len 1
    | .dup2 => Nat.beq len 1
    | .dup_x1 => Nat.beq len 1
    | .goto off => Nat.beq len 3 && decide ((pc : Int) + off = (a : Int))
    | .if_icmp _ off => Nat.beq len 3 && decide ((pc : Int) + off = (a : Int))
    | .ifCond _ off => Nat.beq len 3 && decide ((pc : Int) + off = (a : Int))
    | .tableswitch d lo hi offs => decide ((pc : Int) + d = (a : Int)) && am_tbchk pc lo offs.toList tb && decide (lo + (offs.toList.length : Int) = hi + 1)
    | .lookupswitch d ps => decide ((pc : Int) + d = (a : Int)) && am_lkchk pc ps.toList tb && (ps.toList.zip (ps.toList.drop 1)).all (fun (a, next) => a.1 < next.1)
    | .iaload => Nat.beq len 1
    | .baload => Nat.beq len 1
    | .aaload => Nat.beq len 1
    | .iastore => Nat.beq len 1
    | .bastore => Nat.beq len 1
    | .aastore => Nat.beq len 1
    | .arraylength => Nat.beq len 1
    | .getfield k => Nat.beq len 3 && am_ft.any (fun q => Nat.beq q.1 o && Nat.beq q.2.1 k && Nat.beq q.2.2.1 a && Nat.beq q.2.2.2.1 b && Nat.beq q.2.2.2.2.1 c)
    | .putfield k => Nat.beq len 3 && am_ft.any (fun q => Nat.beq q.1 o && Nat.beq q.2.1 k && Nat.beq q.2.2.1 a && Nat.beq q.2.2.2.1 b && Nat.beq q.2.2.2.2.1 c && (match vwCl[a]? with
      | none => false
      | some (_, T, _) => bif (T b).2.2.2 then ini && decide ((T b).1 = am_ow o) && Nat.beq q.2.2.2.2.2.1 0 else true))
    | .getstatic k => Nat.beq len 3 && am_st.any (fun q => Nat.beq q.1 o && Nat.beq q.2.1 k && Nat.beq q.2.2.1 a)
    | .new k => Nat.beq len 3 && Nat.beq b (am_nf a) && am_nt.any (fun q => Nat.beq q.1 o && Nat.beq q.2.1 k && Nat.beq q.2.2.1 a)
    | .newarray ty => Nat.beq len 2 && Nat.blt 15 a && Nat.blt a 200 && (match ty with
      | .int => Nat.beq (am_ak a) 0
      | .byte => Nat.beq (am_ak a) 1
      | .boolean => Nat.beq (am_ak a) 2
      | _ => false)
    | .anewarray k => Nat.beq len 3 && Nat.blt 15 a && Nat.blt a 200 && am_at.any (fun q => Nat.beq q.1 o && Nat.beq q.2.1 k && Nat.beq q.2.2.1 (am_ak a))
    | .invokestatic k => Nat.beq len 3 && am_hdchk pc hd tb && (bif Nat.beq a 901 then am_mt.any (fun q => Nat.beq q.1 o && Nat.beq q.2.1 k && Nat.beq q.2.2.1 901 && Nat.beq q.2.2.2.2.2.1 1) && Nat.ble 1 fr && Nat.ble 25 lc else bif Nat.beq a 902 || Nat.beq a 903 then am_mt.any (fun q => Nat.beq q.1 o && Nat.beq q.2.1 k && Nat.beq q.2.2.1 a && Nat.beq q.2.2.2.2.2.1 1 && Nat.beq q.2.2.2.2.2.2.1 0) && Nat.ble 1 fr && Nat.ble 21 lc else am_cachk o k 1 a b c fr lc)
    | .invokevirtual k => Nat.beq len 3 && am_hdchk pc hd tb && (Nat.beq a 999 || am_cachk o k 0 a b c fr lc)
    | .invokespecial k => Nat.beq len 3 && am_hdchk pc hd tb && (bif Nat.beq a 900 then am_mt.any (fun q => Nat.beq q.1 o && Nat.beq q.2.1 k && Nat.beq q.2.2.1 900 && Nat.beq q.2.2.2.2.2.1 2) && Nat.ble 1 fr && Nat.ble 20 lc else am_cachk o k 2 a b c fr lc)
    | .athrow => Nat.beq len 1 && am_hdchk pc hd []
    | .ireturn => Nat.beq len 1 && (match rt with
      | some .int => Nat.beq a 0
      | some .boolean => Nat.beq a 1
      | _ => false)
    | .areturn => Nat.beq len 1 && (match rt with
      | some (.object _) => true
      | some (.array _) => true
      | _ => false)
    | .return_ => Nat.beq len 1 && rt.isNone
    | .lload_n _ => true
    | .lload _ => true
    | .lcmp => true
    | .pop => true
    | _ => false
def am_mrchk (y : Nat) : Bool := match am_md[y]? with
  | some (nm, _, rt, o, fr, lc, hd) => (am_code y).all (fun q => decide (decode (am_by y) q.1 = .ok (q.2.1, q.2.2.1)) && am_rchk o rt fr lc (decide (nm.name = "<init>")) hd q.1 q.2)
  | none => false
