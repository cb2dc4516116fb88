/-! The small machine: values, rows, one step, runs. A reference is (kind, number). Kinds below 16: objects by the place of their type in vwCl; 20 .. 199: rows by what holds them; from 200 on: rows that were there before; from 220 on: values of which nothing is known. -/
abbrev am_V : Type := Int32 ⊕ Int64 ⊕ Option (Nat × Nat)
abbrev am_B : Type := Nat × (Nat → Nat × Nat) × (Nat → Nat → Nat) × (Nat → Nat → Nat) × Nat × (Nat → Nat)
abbrev am_H : Type := am_B × (Nat → Nat → Nat → Int32) × (Nat → Nat → Nat → Option (Nat × Nat))
abbrev am_O : Type := Option am_V ⊕ (Nat × Nat)
abbrev am_R : Type := Option (am_O × am_H)
abbrev am_Row : Type := Instr × Nat × Int32 × Nat × Nat × Nat × List (Int32 × Nat)
abbrev av_i (x : Int32) : am_V := .inl x
abbrev av_l (x : Int64) : am_V := .inr (.inl x)
abbrev av_q (r : Option (Nat × Nat)) : am_V := .inr (.inr r)
abbrev av_r (t i : Nat) : am_V := .inr (.inr (some (t, i)))
abbrev av_n : am_V := .inr (.inr none)
/-- cells: number, which is where, where is which, lengths, places in all, how many of a kind -/
abbrev ah_n (σ : am_H) : Nat := σ.1.1
abbrev ah_al (σ : am_H) : Nat → Nat × Nat := σ.1.2.1
abbrev ah_ad (σ : am_H) : Nat → Nat → Nat := σ.1.2.2.1
abbrev ah_ln (σ : am_H) : Nat → Nat → Nat := σ.1.2.2.2.1
abbrev ah_sl (σ : am_H) : Nat := σ.1.2.2.2.2.1
abbrev ah_I (σ : am_H) : Nat → Nat → Nat → Int32 := σ.2.1
abbrev ah_R (σ : am_H) : Nat → Nat → Nat → Option (Nat × Nat) := σ.2.2
def am_c {α : Type} (I : Nat → Nat → α) (t i : Nat) (f : α) : Nat → Nat → α := fun t' i' => if t' = t ∧ i' = i then f else I t' i'
def am_u {α : Type} (f : Nat → α) (k : Nat) (x : α) : Nat → α := fun j => if j = k then x else f j
/-- one place of a cell gets a number -/
def am_sI (σ : am_H) (t i j : Nat) (x : Int32) : am_H := (σ.1, am_c σ.2.1 t i (upd (σ.2.1 t i) j x), σ.2.2)
def am_sR (σ : am_H) (t i j : Nat) (x : Option (Nat × Nat)) : am_H := (σ.1, σ.2.1, am_c σ.2.2 t i (am_u (σ.2.2 t i) j x))
def am_in (j : Int32) (n : Nat) : Bool := !decide (j < 0) && Nat.blt j.toNatClampNeg n
/-- what an array kind holds: 0 int, 1 byte, 2 boolean, 3 Code, 4 Blocks; 9: no array of ours -/
def am_fit (t : Nat) (k : Nat) (x : Int32) : Int32 := bif Nat.beq k 1 then vp_nar .byte x else bif Nat.beq k 2 then vp_nar .boolean x else x
def am_sw (x : Int32) (K : Nat → am_R) (d : Nat) : List (Int32 × Nat) → am_R
  | [] => K d
  | q :: r => if x = q.1 then K q.2 else am_sw x K d r
def am_cnt (σ : am_H) (t : Nat) : Nat := σ.1.2.2.2.2.2 t
def am_mk (σ : am_H) (t n : Nat) : am_H :=
  let i := am_cnt σ t
  ((ah_n σ + 1, am_u (ah_al σ) (ah_n σ) (t, i), am_c (ah_ad σ) t i (ah_n σ), am_c (ah_ln σ) t i n, ah_sl σ + n, am_u σ.1.2.2.2.2.2 t (i + 1)), am_c (ah_I σ) t i (fun _ => 0), am_c (ah_R σ) t i (fun _ => none))
section AmStep
variable (ak : Nat → Nat) (X : Nat → Nat → Int32) (XL : Nat → Nat)
/-- the length of a row (of one that was there before: XL is one more; 0: it is not to be looked at) -/
def am_len (σ : am_H) (t i : Nat) : Nat := bif Nat.blt t 200 then ah_ln σ t i else XL t - 1
def am_bin (f : Int32 → Int32 → Int32) (K : List am_V → am_R) : List am_V → am_R
  | .inl y :: .inl x :: r => K (av_i (f x y) :: r)
  | _ => none
def am_iald (σ : am_H) (K : List am_V → am_R) : List am_V → am_R
  | .inl j :: .inr (.inr (some (t, i))) :: r =>
    bif Nat.blt t 200 then (bif Nat.beq (ak t) 0 && am_in j (ah_ln σ t i) then K (av_i (ah_I σ t i j.toNatClampNeg) :: r) else none)
    else (bif Nat.blt t 220 && am_in j (XL t - 1) then K (av_i (X t j.toNatClampNeg) :: r) else none)
  | _ => none
def am_bald (σ : am_H) (K : List am_V → am_R) : List am_V → am_R
  | .inl j :: .inr (.inr (some (t, i))) :: r =>
    bif Nat.blt t 200 && (Nat.beq (ak t) 1 || Nat.beq (ak t) 2) && am_in j (ah_ln σ t i) then K (av_i (ah_I σ t i j.toNatClampNeg) :: r) else none
  | _ => none
def am_aald (σ : am_H) (K : List am_V → am_R) : List am_V → am_R
  | .inl j :: .inr (.inr (some (t, i))) :: r =>
    bif Nat.blt t 200 && (Nat.beq (ak t) 3 || Nat.beq (ak t) 4) && am_in j (ah_ln σ t i) then K (av_q (ah_R σ t i j.toNatClampNeg) :: r) else none
  | _ => none
def am_iast (σ : am_H) (K : List am_V → am_H → am_R) : List am_V → am_R
  | .inl x :: .inl j :: .inr (.inr (some (t, i))) :: r =>
    bif Nat.blt t 200 && Nat.beq (ak t) 0 && am_in j (ah_ln σ t i) then K r (am_sI σ t i j.toNatClampNeg x) else none
  | _ => none
def am_bast (σ : am_H) (K : List am_V → am_H → am_R) : List am_V → am_R
  | .inl x :: .inl j :: .inr (.inr (some (t, i))) :: r =>
    bif Nat.blt t 200 && (Nat.beq (ak t) 1 || Nat.beq (ak t) 2) && am_in j (ah_ln σ t i) then K r (am_sI σ t i j.toNatClampNeg (bif Nat.beq (ak t) 1 then vp_nar .byte x else vp_nar .boolean x)) else none
  | _ => none
def am_aast (σ : am_H) (K : List am_V → am_H → am_R) : List am_V → am_R
  | .inr (.inr (some (t2, i2))) :: .inl j :: .inr (.inr (some (t, i))) :: r =>
    bif Nat.blt t 200 && ((Nat.beq (ak t) 3 && Nat.beq t2 3) || (Nat.beq (ak t) 4 && Nat.beq t2 1)) && am_in j (ah_ln σ t i) then K r (am_sR σ t i j.toNatClampNeg (some (t2, i2))) else none
  | _ => none
def am_alen (σ : am_H) (K : List am_V → am_R) : List am_V → am_R
  | .inr (.inr (some (t, i))) :: r => bif (Nat.blt t 200 && !Nat.beq (ak t) 9) || (Nat.blt 199 t && Nat.blt t 220 && Nat.blt 0 (XL t)) then K (av_i (Int32.ofNat (am_len XL σ t i)) :: r) else none
  | _ => none
/-- a: kind, b: place, c: 0 int, 1 reference, 2 boolean -/
def am_getf (a b c : Nat) (σ : am_H) (K : List am_V → am_R) : List am_V → am_R
  | .inr (.inr (some (t, i))) :: r => bif Nat.beq t a then K ((bif Nat.beq c 1 then av_q (ah_R σ t i b) else av_i (ah_I σ t i b)) :: r) else none
  | _ => none
def am_putf (a b c : Nat) (σ : am_H) (K : List am_V → am_H → am_R) : List am_V → am_R
  | .inl x :: .inr (.inr (some (t, i))) :: r => bif Nat.beq t a && (Nat.beq c 0 || (Nat.beq c 2 && (x == 0 || x == 1))) then K r (am_sI σ t i b x) else none
  | .inr (.inr q) :: .inr (.inr (some (t, i))) :: r => bif Nat.beq t a && Nat.beq c 1 then K r (am_sR σ t i b q) else none
  | _ => none
def am_ldi (ls : List am_V) (k : Nat) (K : am_V → am_R) : am_R := match ls[k]? with
  | some (.inl x) => K (av_i x)
  | _ => none
def am_lda (ls : List am_V) (k : Nat) (K : am_V → am_R) : am_R := match ls[k]? with
  | some (.inr (.inr q)) => K (av_q q)
  | _ => none
def am_sti (ls : List am_V) (k : Nat) (K : List am_V → List am_V → am_R) : List am_V → am_R
  | .inl x :: r => bif Nat.blt k ls.length then K (ls.set k (av_i x)) r else none
  | _ => none
def am_sta (ls : List am_V) (k : Nat) (K : List am_V → List am_V → am_R) : List am_V → am_R
  | .inr (.inr q) :: r => bif Nat.blt k ls.length then K (ls.set k (av_q q)) r else none
  | _ => none
def am_inc (ls : List am_V) (k : Nat) (w : Int32) (K : List am_V → am_R) : am_R := match ls[k]? with
  | some (.inl x) => K (ls.set k (av_i (x + w)))
  | _ => none
def am_cmp2 (p : Int32 → Int32 → am_R → am_R → am_R) (kt kf : List am_V → am_R) : List am_V → am_R
  | .inl y :: .inl x :: r => p x y (kt r) (kf r)
  | _ => none
def am_cmp1 (p : Int32 → am_R → am_R → am_R) (kt kf : List am_V → am_R) : List am_V → am_R
  | .inl x :: r => p x (kt r) (kf r)
  | _ => none
/-- behind a call: the answer, or what was thrown (a handler: its place) -/
def am_aft (h : List (Int32 × Nat)) (K : List am_V → am_H → am_R) (KH : Nat → Nat × Nat → am_H → am_R) : am_R → am_R
  | some (.inl v, σ) => K v.toList σ
  | some (.inr q, σ) => match h with
    | [] => some (.inr q, σ)
    | z :: _ => KH z.2 q σ
  | none => none
def am_inP (K : List am_V → am_R) : List am_V → am_R
  | .inr (.inl hi) :: .inr (.inl lo) :: .inr (.inl x) :: r => bif Nat.ble r.length 4 then K (av_i (if lo ≤ x ∧ x ≤ hi then 1 else 0) :: r) else none
  | _ => none
def am_b4 (f : Int32 → Int32 → Int32) (K : List am_V → am_R) : List am_V → am_R
  | .inl y :: .inl x :: r => bif Nat.ble r.length 4 then K (av_i (f x y) :: r) else none
  | _ => none
def am_recv (c : Nat) : List am_V → Bool
  | .inr (.inr (some (t, _))) :: _ => Nat.beq t c
  | _ => false
def am_nl : am_V → Bool
  | .inr (.inl _) => false
  | _ => true
/-- a call of a with b values from the stack (c: kind of the receiver, 999: none) -/
def am_call (a b c : Nat) (C : Nat → List am_V → am_H → am_R) (st : List am_V) (σ : am_H) (KA : am_R → List am_V → am_R) : am_R :=
  bif Nat.ble b st.length && Nat.ble (st.length - b) 4 && (Nat.beq c 999 || am_recv c (st.take b).reverse) && (st.take b).all am_nl then KA (C a (st.take b).reverse σ) (st.drop b) else none
def am_step (K : Nat → List am_V → List am_V → am_H → am_R) (C : Nat → List am_V → am_H → am_R) (pc : Nat) (ls st : List am_V) (σ : am_H) : Option am_Row → am_R
  | none => none
  | some (i, len, w, a, b, c, tb) => match i with
    | .iconst _ => K (pc + len) ls (av_i w :: st) σ
    | .bipush _ => K (pc + len) ls (av_i w :: st) σ
    | .sipush _ => K (pc + len) ls (av_i w :: st) σ
    | .ldc _ => K (pc + len) ls (av_i w :: st) σ
    | .ldc_w _ => K (pc + len) ls (av_i w :: st) σ
    | .lconst _ => K (pc + len) ls (av_l w.toInt64 :: st) σ
    | .ldc2_w _ => K (pc + len) ls (av_l w.toInt64 :: st) σ
    | .aconst_null => K (pc + len) ls (av_n :: st) σ
    | .iload_n _ => am_ldi ls a (fun v => K (pc + len) ls (v :: st) σ)
    | .iload _ => am_ldi ls a (fun v => K (pc + len) ls (v :: st) σ)
    | .aload_n _ => am_lda ls a (fun v => K (pc + len) ls (v :: st) σ)
    | .aload _ => am_lda ls a (fun v => K (pc + len) ls (v :: st) σ)
    | .istore_n _ => am_sti ls a (fun ls r => K (pc + len) ls r σ) st
    | .istore _ => am_sti ls a (fun ls r => K (pc + len) ls r σ) st
    | .astore_n _ => am_sta ls a (fun ls r => K (pc + len) ls r σ) st
    | .astore _ => am_sta ls a (fun ls r => K (pc + len) ls r σ) st
    | .iinc _ _ => am_inc ls a w (fun ls => K (pc + len) ls st σ)
    | .iadd => am_bin (fun x y => x + y) (fun r => K (pc + len) ls r σ) st
    | .isub => am_bin (fun x y => x - y) (fun r => K (pc + len) ls r σ) st
    | .imul => am_bin (fun x y => x * y) (fun r => K (pc + len) ls r σ) st
    | .iand => am_bin (fun x y => x &&& y) (fun r => K (pc + len) ls r σ) st
    | .ior => am_bin (fun x y => x ||| y) (fun r => K (pc + len) ls r σ) st
    | .ixor => am_bin (fun x y => x ^^^ y) (fun r => K (pc + len) ls r σ) st
    | .ishl => am_bin (fun x y => x <<< (y &&& 31)) (fun r => K (pc + len) ls r σ) st
    | .ishr => am_bin (fun x y => x >>> (y &&& 31)) (fun r => K (pc + len) ls r σ) st
    | .iushr => am_bin (fun x y => (x.toUInt32 >>> (y.toUInt32 &&& Int32.toUInt32 31)).toInt32) (fun r => K (pc + len) ls r σ) st
    | .idiv => (match st with
      | .inl y :: .inl x :: r => if y = 0 then none else K (pc + len) ls (av_i (x / y) :: r) σ
      | _ => none)
    | .irem => (match st with
      | .inl y :: .inl x :: r => if y = 0 then none else K (pc + len) ls (av_i (x - x / y * y) :: r) σ
      | _ => none)
    | .ineg => (match st with
      | .inl x :: r => K (pc + len) ls (av_i (-x) :: r) σ
      | _ => none)
    | .i2l => (match st with
      | .inl x :: r => K (pc + len) ls (av_l x.toInt64 :: r) σ
      | _ => none)
    | .i2b => (match st with
      | .inl x :: r => K (pc + len) ls (av_i x.toInt8.toInt32 :: r) σ
      | _ => none)
    | .dup => (match st with
      | .inl x :: r => K (pc + len) ls (av_i x :: av_i x :: r) σ
      | .inr (.inr q) :: r => K (pc + len) ls (av_q q :: av_q q :: r) σ
      | _ => none)
    | .dup2 => (match st with
      | .inl x :: .inr (.inr q) :: r => K (pc + len) ls (av_i x :: av_q q :: av_i x :: av_q q :: r) σ
      | _ => none)
    | .dup_x1 => (match st with
      | .inl x :: .inr (.inr q) :: r => K (pc + len) ls (av_i x :: av_q q :: av_i x :: r) σ
      | _ => none)
    | .goto _ => K a ls st σ
    | .if_icmp cnd _ => (match cnd with
      | .eq => am_cmp2 (fun x y A B => if x = y then A else B) (fun r => K a ls r σ) (fun r => K (pc + len) ls r σ) st
      | .ne => am_cmp2 (fun x y A B => if x = y then B else A) (fun r => K a ls r σ) (fun r => K (pc + len) ls r σ) st
      | .lt => am_cmp2 (fun x y A B => if x < y then A else B) (fun r => K a ls r σ) (fun r => K (pc + len) ls r σ) st
      | .ge => am_cmp2 (fun x y A B => if y ≤ x then A else B) (fun r => K a ls r σ) (fun r => K (pc + len) ls r σ) st
      | .gt => am_cmp2 (fun x y A B => if y < x then A else B) (fun r => K a ls r σ) (fun r => K (pc + len) ls r σ) st
      | .le => am_cmp2 (fun x y A B => if x ≤ y then A else B) (fun r => K a ls r σ) (fun r => K (pc + len) ls r σ) st)
    | .ifCond cnd _ => (match cnd with
      | .eq => am_cmp1 (fun x A B => if x = 0 then A else B) (fun r => K a ls r σ) (fun r => K (pc + len) ls r σ) st
      | .ne => am_cmp1 (fun x A B => if x = 0 then B else A) (fun r => K a ls r σ) (fun r => K (pc + len) ls r σ) st
      | .lt => am_cmp1 (fun x A B => if x < 0 then A else B) (fun r => K a ls r σ) (fun r => K (pc + len) ls r σ) st
      | .ge => am_cmp1 (fun x A B => if 0 ≤ x then A else B) (fun r => K a ls r σ) (fun r => K (pc + len) ls r σ) st
      | .gt => am_cmp1 (fun x A B => if 0 < x then A else B) (fun r => K a ls r σ) (fun r => K (pc + len) ls r σ) st
      | .le => am_cmp1 (fun x A B => if x ≤ 0 then A else B) (fun r => K a ls r σ) (fun r => K (pc + len) ls r σ) st)
    | .tableswitch _ _ _ _ => (match st with
      | .inl x :: r => am_sw x (fun q => K q ls r σ) a tb
      | _ => none)
    | .lookupswitch _ _ => (match st with
      | .inl x :: r => am_sw x (fun q => K q ls r σ) a tb
      | _ => none)
    | .iaload => am_iald ak X XL σ (fun r => K (pc + len) ls r σ) st
    | .baload => am_bald ak σ (fun r => K (pc + len) ls r σ) st
    | .aaload => am_aald ak σ (fun r => K (pc + len) ls r σ) st
    | .iastore => am_iast ak σ (fun r σ => K (pc + len) ls r σ) st
    | .bastore => am_bast ak σ (fun r σ => K (pc + len) ls r σ) st
    | .aastore => am_aast ak σ (fun r σ => K (pc + len) ls r σ) st
    | .arraylength => am_alen ak XL σ (fun r => K (pc + len) ls r σ) st
    | .getfield _ => am_getf a b c σ (fun r => K (pc + len) ls r σ) st
    | .putfield _ => am_putf a b c σ (fun r σ => K (pc + len) ls r σ) st
    | .getstatic _ => K (pc + len) ls (av_r a 0 :: st) σ
    | .new _ => K (pc + len) ls (av_r a (am_cnt σ a) :: st) (am_mk σ a b)
    | .newarray _ => (match st with
      | .inl n :: r => bif am_in n 20000 then K (pc + len) ls (av_r a (am_cnt σ a) :: r) (am_mk σ a n.toNatClampNeg) else none
      | _ => none)
    | .anewarray _ => (match st with
      | .inl n :: r => bif am_in n 20000 then K (pc + len) ls (av_r a (am_cnt σ a) :: r) (am_mk σ a n.toNatClampNeg) else none
      | _ => none)
    | .invokestatic _ => bif Nat.beq a 901 then am_inP (fun r => K (pc + len) ls r σ) st
      else bif Nat.beq a 902 then am_b4 (fun x y => if x < y then y else x) (fun r => K (pc + len) ls r σ) st
      else bif Nat.beq a 903 then am_b4 (fun x y => if y < x then y else x) (fun r => K (pc + len) ls r σ) st
      else am_call a b c C st σ (fun q r => am_aft tb (fun v σ => K (pc + len) ls (v ++ r) σ) (fun h x σ => K h ls [av_r x.1 x.2] σ) q)
    | .invokevirtual _ => am_call a b c C st σ (fun q r => am_aft tb (fun v σ => K (pc + len) ls (v ++ r) σ) (fun h x σ => K h ls [av_r x.1 x.2] σ) q)
    | .invokespecial _ => bif Nat.beq a 900 then (match st with
        | .inr (.inr (some (t, _))) :: r => bif Nat.blt t 200 && Nat.ble r.length 4 then K (pc + len) ls r σ else none
        | _ => none)
      else am_call a b c C st σ (fun q r => am_aft tb (fun v σ => K (pc + len) ls (v ++ r) σ) (fun h x σ => K h ls [av_r x.1 x.2] σ) q)
    | .athrow => (match st with
      | .inr (.inr (some (t, i))) :: _ => bif Nat.beq t 12 then some (.inr (t, i), σ) else none
      | _ => none)
    | .ireturn => (match st with
      | [.inl x] => some (.inl (some (av_i (bif Nat.beq a 1 then vp_nar .boolean x else x))), σ)
      | _ => none)
    | .areturn => (match st with
      | [.inr (.inr q)] => some (.inl (some (av_q q)), σ)
      | _ => none)
    | .return_ => (match st with
      | [] => some (.inl none, σ)
      | _ => none)
    | _ => none
end AmStep
def am_look (l : List (Nat × am_Row)) (pc : Nat) : Option am_Row := (l.find? (fun q => Nat.beq q.1 pc)).map (fun q => q.2)
def am_ent (n : Nat) (as : List am_V) : List am_V := as ++ List.replicate (n - as.length) (av_l 0)
section AmRun
variable (ak : Nat → Nat) (X : Nat → Nat → Int32) (XL : Nat → Nat) (code : Nat → List (Nat × am_Row)) (ml : Nat → Nat)
def am_run : Nat → Nat → Nat → List am_V → List am_V → am_H → am_R
  | 0, _, _, _, _, _ => none
  | n + 1, y, pc, ls, st, σ => am_step ak X XL (am_run n y) (fun y2 as σ => am_run n y2 0 (am_ent (ml y2) as) [] σ) pc ls st σ (am_look (code y) pc)
end AmRun
