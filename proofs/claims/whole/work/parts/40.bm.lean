/-! The small machine over Int: what must hold of a state so that the run ends, as a proposition. A reference is (kind, number); the state gives a number for (kind, number, place); told and coming lie in it as numbers at (8, 0, 4) and (8, 0, 6). -/
abbrev bm_V : Type := Int ⊕ Int ⊕ (Nat × Int)
abbrev bm_S : Type := Nat → Int → Int → Int
abbrev bm_O : Type := Option bm_V ⊕ (Nat × Int)
abbrev bm_Sc : Type := Nat × (Nat → Int32)
abbrev bi (x : Int) : bm_V := .inl x
abbrev bl (x : Int) : bm_V := .inr (.inl x)
abbrev br (t : Nat) (i : Int) : bm_V := .inr (.inr (t, i))
abbrev bu : bm_V := .inr (.inl 0)
abbrev bm_rg (x : Int) : Prop := -2147483648 ≤ x ∧ x < 2147483648
def bt_200 : List Int := [0, 1, 2, 3, 4, 5, 6, 8, 10, 14, 18, 26, 34, 50, 66, 98, 130, 194, 322, 578, 1090, 2114, 6210, 22594]
def bt_201 : List Int := [2, 3, 4, 5, 6, 7, 8, 9, 10, 12, 14, 18, 22, 30, 38, 54, 70, 102, 134, 198, 326, 582, 1094, 2118]
def bt_202 : List Int := [0, 0, 0, 0, 1, 1, 0, 2, 1, 2, 2]
def bt_203 : List Int := [0, 1, 0, 1, 0, 1, 2, 0, 2, 1, 2]
def bt_204 : List Int := [1, 2, 3, 4, 0, 5, 17, 6, 16, 7, 8, 9, 10, 11, 12, 13, 14, 15]
def bt_205 : List Int := [0, 7, 3, 2, 1, 15]
def bt_206 : List Int := [2, 4, 3, 2, 2, 4]
def bt_207 : List Int := [0, 0, 0, 0, 0, 0, 1, 1, 2, 2, 3, 3, 4, 4, 5, 5, 6, 7, 8, 9, 10, 12, 14, 24]
def bt_208 : List Int := [0, 0, 0, 0, 0, 0, 0, 0, 1, 1, 2, 2, 3, 3, 4, 4, 5, 5, 6, 7, 8, 9, 10, 24]
def bt_209 : List Int := [1, 5, 9, 13, 17, 25, 33, 41, 49, 65, 81, 97, 113, 145, 177, 209, 241, 305, 369, 497, 753, 1265, 2289, 4337, 8433, 16625]
def bt_210 : List Int := [2, 2, 2, 2, 3, 3, 3, 3, 4, 4, 4, 4, 5, 5, 5, 5, 6, 6, 7, 8, 9, 10, 11, 12, 13, 24]
def bt_all (t : Nat) : List Int := bif Nat.beq t 200 then bt_200 else bif Nat.beq t 201 then bt_201 else bif Nat.beq t 202 then bt_202 else bif Nat.beq t 203 then bt_203 else bif Nat.beq t 204 then bt_204 else bif Nat.beq t 205 then bt_205 else bif Nat.beq t 206 then bt_206 else bif Nat.beq t 207 then bt_207 else bif Nat.beq t 208 then bt_208 else bif Nat.beq t 209 then bt_209 else bif Nat.beq t 210 then bt_210 else []
def bm_rt (y : Nat) : Nat := bif Nat.blt y 132 then (bif Nat.blt y 66 then (bif Nat.blt y 33 then (bif Nat.blt y 16 then (bif Nat.blt y 8 then (bif Nat.blt y 4 then (bif Nat.blt y 2 then (0) else (bif Nat.blt y 3 then (1) else (0))) else (bif Nat.blt y 6 then (1) else (0))) else (bif Nat.blt y 12 then (0) else (bif Nat.blt y 14 then (0) else (bif Nat.blt y 15 then (0) else (1))))) else (bif Nat.blt y 24 then (0) else (bif Nat.blt y 28 then (bif Nat.blt y 26 then (bif Nat.blt y 25 then (1) else (0)) else (0)) else (bif Nat.blt y 30 then (1) else (bif Nat.blt y 31 then (0) else (bif Nat.blt y 32 then (1) else (0))))))) else (bif Nat.blt y 49 then (bif Nat.blt y 41 then (0) else (bif Nat.blt y 45 then (bif Nat.blt y 43 then (bif Nat.blt y 42 then (1) else (0)) else (bif Nat.blt y 44 then (0) else (1))) else (bif Nat.blt y 47 then (bif Nat.blt y 46 then (0) else (1)) else (0)))) else (bif Nat.blt y 57 then (bif Nat.blt y 53 then (bif Nat.blt y 51 then (bif Nat.blt y 50 then (1) else (0)) else (0)) else (bif Nat.blt y 55 then (bif Nat.blt y 54 then (0) else (1)) else (bif Nat.blt y 56 then (1) else (0)))) else (bif Nat.blt y 61 then (bif Nat.blt y 59 then (bif Nat.blt y 58 then (1) else (0)) else (bif Nat.blt y 60 then (1) else (0))) else (bif Nat.blt y 63 then (0) else (bif Nat.blt y 64 then (2) else (1))))))) else (bif Nat.blt y 99 then (bif Nat.blt y 82 then (bif Nat.blt y 74 then (bif Nat.blt y 70 then (bif Nat.blt y 68 then (bif Nat.blt y 67 then (1) else (3)) else (bif Nat.blt y 69 then (0) else (1))) else (bif Nat.blt y 72 then (bif Nat.blt y 71 then (0) else (1)) else (bif Nat.blt y 73 then (0) else (1)))) else (bif Nat.blt y 78 then (bif Nat.blt y 76 then (1) else (0)) else (bif Nat.blt y 80 then (0) else (bif Nat.blt y 81 then (1) else (0))))) else (bif Nat.blt y 90 then (bif Nat.blt y 86 then (0) else (bif Nat.blt y 88 then (0) else (bif Nat.blt y 89 then (0) else (1)))) else (bif Nat.blt y 94 then (bif Nat.blt y 92 then (bif Nat.blt y 91 then (1) else (0)) else (0)) else (bif Nat.blt y 96 then (0) else (bif Nat.blt y 97 then (0) else (bif Nat.blt y 98 then (1) else (0))))))) else (bif Nat.blt y 115 then (bif Nat.blt y 107 then (bif Nat.blt y 103 then (bif Nat.blt y 101 then (bif Nat.blt y 100 then (1) else (0)) else (0)) else (bif Nat.blt y 105 then (1) else (bif Nat.blt y 106 then (1) else (0)))) else (bif Nat.blt y 111 then (bif Nat.blt y 109 then (0) else (1)) else (bif Nat.blt y 113 then (0) else (1)))) else (bif Nat.blt y 123 then (bif Nat.blt y 119 then (1) else (bif Nat.blt y 121 then (bif Nat.blt y 120 then (1) else (0)) else (1))) else (1))))) else (bif Nat.blt y 198 then (bif Nat.blt y 165 then (bif Nat.blt y 148 then (bif Nat.blt y 140 then (1) else (bif Nat.blt y 144 then (bif Nat.blt y 142 then (1) else (0)) else (1))) else (bif Nat.blt y 156 then (bif Nat.blt y 152 then (bif Nat.blt y 150 then (1) else (bif Nat.blt y 151 then (0) else (1))) else (bif Nat.blt y 154 then (0) else (1))) else (bif Nat.blt y 160 then (bif Nat.blt y 158 then (1) else (bif Nat.blt y 159 then (0) else (1))) else (1)))) else (bif Nat.blt y 181 then (bif Nat.blt y 173 then (bif Nat.blt y 169 then (bif Nat.blt y 167 then (1) else (0)) else (bif Nat.blt y 171 then (1) else (0))) else (bif Nat.blt y 177 then (bif Nat.blt y 175 then (1) else (bif Nat.blt y 176 then (0) else (1))) else (bif Nat.blt y 179 then (bif Nat.blt y 178 then (1) else (0)) else (bif Nat.blt y 180 then (0) else (1))))) else (bif Nat.blt y 189 then (bif Nat.blt y 185 then (bif Nat.blt y 183 then (1) else (0)) else (0)) else (bif Nat.blt y 193 then (bif Nat.blt y 191 then (bif Nat.blt y 190 then (0) else (1)) else (1)) else (bif Nat.blt y 195 then (bif Nat.blt y 194 then (1) else (0)) else (0)))))) else (bif Nat.blt y 231 then (bif Nat.blt y 214 then (bif Nat.blt y 206 then (bif Nat.blt y 202 then (bif Nat.blt y 200 then (0) else (1)) else (1)) else (bif Nat.blt y 210 then (1) else (bif Nat.blt y 212 then (1) else (bif Nat.blt y 213 then (1) else (0))))) else (bif Nat.blt y 222 then (bif Nat.blt y 218 then (bif Nat.blt y 216 then (bif Nat.blt y 215 then (0) else (1)) else (0)) else (bif Nat.blt y 220 then (0) else (bif Nat.blt y 221 then (0) else (1)))) else (bif Nat.blt y 226 then (bif Nat.blt y 224 then (0) else (1)) else (1)))) else (bif Nat.blt y 248 then (bif Nat.blt y 239 then (bif Nat.blt y 235 then (bif Nat.blt y 233 then (1) else (bif Nat.blt y 234 then (1) else (0))) else (bif Nat.blt y 237 then (0) else (1))) else (bif Nat.blt y 243 then (bif Nat.blt y 241 then (bif Nat.blt y 240 then (1) else (0)) else (0)) else (bif Nat.blt y 245 then (0) else (bif Nat.blt y 246 then (0) else (bif Nat.blt y 247 then (0) else (1)))))) else (bif Nat.blt y 256 then (bif Nat.blt y 252 then (bif Nat.blt y 250 then (bif Nat.blt y 249 then (0) else (1)) else (1)) else (0)) else (bif Nat.blt y 260 then (bif Nat.blt y 258 then (0) else (bif Nat.blt y 259 then (0) else (1))) else (bif Nat.blt y 262 then (0) else (bif Nat.blt y 263 then (0) else (bif Nat.blt y 264 then (0) else (1)))))))))
def bm_X (sc : bm_Sc) (t : Nat) (j : Int) : Int := bif Nat.beq t 211 then (sc.2 j.toNat).toInt else (bt_all t).getD j.toNat 0
def bm_XL (sc : bm_Sc) (t : Nat) : Int := bif Nat.beq t 211 then (sc.1 : Int) else ((bt_all t).length : Int)
def up (ι : bm_S) (t : Nat) (i j x : Int) : bm_S := fun t' i' j' => if t' = t ∧ j' = j ∧ i' = i then x else ι t' i' j'
def bm_p2 (k : Int) : Int := ((2 ^ k.toNat : Nat) : Int)
def bm_and (x y : Int) : Int := (Int32.ofInt x &&& Int32.ofInt y).toInt
def bm_band (x y : Int) : Int := if y = 1 then x % 2 else if y = 3 then x % 4 else if y = 7 then x % 8 else if y = 15 then x % 16 else if y = 31 then x % 32 else if y = 63 then x % 64 else if y = 255 then x % 256 else if y = 1023 then x % 1024 else if y = 65535 then x % 65536 else bm_and x y
def bm_or (x y : Int) : Int := (Int32.ofInt x ||| Int32.ofInt y).toInt
def bm_xor (x y : Int) : Int := (Int32.ofInt x ^^^ Int32.ofInt y).toInt
def bm_ushr (x y : Int) : Int := ((Int32.ofInt x).toUInt32 >>> ((Int32.ofInt y).toUInt32 &&& Int32.toUInt32 31)).toInt32.toInt
def bm_byte (x : Int) : Int := (x + 128) % 256 - 128
def bm_in (x lo hi : Int) : Int := if lo ≤ x ∧ x ≤ hi then 1 else 0
def bm_cv : bm_V → am_V
  | .inl x => av_i (Int32.ofInt x)
  | .inr (.inl x) => av_l (Int64.ofInt x)
  | .inr (.inr q) => av_r q.1 q.2.toNat
def bm_vr : bm_V → Prop
  | .inl x => bm_rg x
  | .inr (.inl x) => bm_rg x
  | .inr (.inr q) => 0 ≤ q.2 ∧ q.2 < 80 ∧ (q.1 = 1 → q.2 < 3)
def bm_co : bm_O → am_O
  | .inl none => .inl none
  | .inl (some v) => .inl (some (bm_cv v))
  | .inr q => .inr (q.1, q.2.toNat)
def bm_ov : bm_O → Prop
  | .inl none => True
  | .inl (some v) => bm_vr v
  | .inr q => 0 ≤ q.2 ∧ q.2 < 80 ∧ (q.1 = 1 → q.2 < 3)
def bm_sr (ι : bm_S) : Prop := (∀ t i j, bm_rg (ι t i j)) ∧ (0 ≤ ι 8 0 4 ∧ ι 8 0 4 < 2) ∧ (0 ≤ ι 8 0 6 ∧ ι 8 0 6 < 2)
def bm_lr (l : List bm_V) : Prop := ∀ v ∈ l, bm_vr v
def bm_I (ι : bm_S) (t i j : Nat) : Int32 := bif Nat.beq t 8 && (Nat.beq j 4 || Nat.beq j 6) then 0 else Int32.ofInt (ι t i j)
def bm_h (ι : bm_S) : am_H := (am_B0, bm_I ι, am_RB (ι 8 0 4).toNat (ι 8 0 6).toNat)
def bm_X32 (sc : bm_Sc) (t j : Nat) : Int32 := Int32.ofInt (bm_X sc t j)
def bm_XLn (sc : bm_Sc) (t : Nat) : Nat := (bm_XL sc t).toNat + 1
def bm_R (Q : bm_O → bm_S → Prop) (r : am_R) : Prop := ∃ o ι', r = some (bm_co o, bm_h ι') ∧ bm_sr ι' ∧ bm_ov o ∧ Q o ι'
/-- from here the run ends, with Q -/
def bW (sc : bm_Sc) (y pc : Nat) (ls st : List bm_V) (ι : bm_S) (Q : bm_O → bm_S → Prop) : Prop :=
  sc.1 < 1000000 → bm_sr ι → bm_lr ls → bm_lr st → bm_R Q (am_res am_ak (bm_X32 sc) (bm_XLn sc) am_code am_ml y pc (ls.map bm_cv) (st.map bm_cv) (bm_h ι))
def bm_ent (n : Nat) (as : List bm_V) : List bm_V := as ++ List.replicate (n - as.length) bu
/-- a call -/
def bC (sc : bm_Sc) (y : Nat) (as : List bm_V) (ι : bm_S) (Q : bm_O → bm_S → Prop) : Prop := bW sc y 0 (bm_ent (am_ml y) as) [] ι Q
def bk0 (K : bm_S → Prop) (H : Nat × Int → bm_S → Prop) : bm_O → bm_S → Prop
  | .inl none, ι => K ι
  | .inr q, ι => H q ι
  | _, _ => False
def bk1 (K : Int → bm_S → Prop) (H : Nat × Int → bm_S → Prop) : bm_O → bm_S → Prop
  | .inl (some (.inl x)), ι => K x ι
  | .inr q, ι => H q ι
  | _, _ => False
def bk2 (K : Nat → Int → bm_S → Prop) (H : Nat × Int → bm_S → Prop) : bm_O → bm_S → Prop
  | .inl (some (.inr (.inr q))), ι => K q.1 q.2 ι
  | .inr q, ι => H q ι
  | _, _ => False
def bk3 (K : Int → bm_S → Prop) (H : Nat × Int → bm_S → Prop) : bm_O → bm_S → Prop
  | .inl (some (.inr (.inr q))), ι => q.1 = 3 ∧ K q.2 ι
  | .inr q, ι => H q ι
  | _, _ => False
abbrev bq (Q : bm_O → bm_S → Prop) : Nat × Int → bm_S → Prop := fun q ι => Q (.inr q) ι
def bm_sw (x : Int) (K : Nat → Prop) (d : Nat) : List (Int32 × Nat) → Prop
  | [] => K d
  | q :: r => if x = q.1.toInt then K q.2 else bm_sw x K d r
section BmStep
variable (sc : bm_Sc)
def bm_bin (c : Int → Int → Prop) (f : Int → Int → Int) (K : List bm_V → Prop) : List bm_V → Prop
  | .inl y :: .inl x :: r => c x y ∧ K (bi (f x y) :: r)
  | _ => False
def bm_bin0 (f : Int → Int → Int) (K : List bm_V → Prop) : List bm_V → Prop
  | .inl y :: .inl x :: r => K (bi (f x y) :: r)
  | _ => False
def bm_iald (ι : bm_S) (K : List bm_V → Prop) : List bm_V → Prop
  | .inl j :: .inr (.inr (t, i)) :: r =>
    bif Nat.blt t 200 then (bif Nat.beq (am_ak t) 0 && Nat.blt 19 t && Nat.blt t 108 then (0 ≤ j ∧ j < bm_L t i) ∧ K (bi (ι t i j) :: r) else False)
    else (bif Nat.blt t 212 then (0 ≤ j ∧ j < bm_XL sc t) ∧ K (bi (bm_X sc t j) :: r) else False)
  | _ => False
def bm_bald (ι : bm_S) (K : List bm_V → Prop) : List bm_V → Prop
  | .inl j :: .inr (.inr (t, i)) :: r =>
    bif Nat.blt 19 t && Nat.blt t 108 && (Nat.beq (am_ak t) 1 || Nat.beq (am_ak t) 2) then (0 ≤ j ∧ j < bm_L t i) ∧ K (bi (ι t i j) :: r) else False
  | _ => False
def bm_aald (K : List bm_V → Prop) : List bm_V → Prop
  | .inl j :: .inr (.inr (t, i)) :: r =>
    bif Nat.beq t 54 then (0 ≤ j ∧ j < 3) ∧ K (br 1 j :: r)
    else bif Nat.beq t 48 then (0 ≤ j ∧ j < 12 ∧ i < 2) ∧ K (br 3 (36 * i + 3 * j) :: r)
    else bif Nat.beq t 49 then (0 ≤ j ∧ j < 12 ∧ i < 2) ∧ K (br 3 (36 * i + 3 * j + 1) :: r)
    else bif Nat.beq t 50 then (0 ≤ j ∧ j < 12 ∧ i < 2) ∧ K (br 3 (36 * i + 3 * j + 2) :: r)
    else False
  | _ => False
def bm_iast (ι : bm_S) (K : List bm_V → bm_S → Prop) : List bm_V → Prop
  | .inl x :: .inl j :: .inr (.inr (t, i)) :: r =>
    bif Nat.blt 19 t && Nat.blt t 108 && Nat.beq (am_ak t) 0 then (0 ≤ j ∧ j < bm_L t i) ∧ K r (up ι t i j x) else False
  | _ => False
def bm_bast (ι : bm_S) (K : List bm_V → bm_S → Prop) : List bm_V → Prop
  | .inl x :: .inl j :: .inr (.inr (t, i)) :: r =>
    bif Nat.blt 19 t && Nat.blt t 108 && Nat.beq (am_ak t) 1 then (0 ≤ j ∧ j < bm_L t i) ∧ K r (up ι t i j (bm_byte x))
    else bif Nat.blt 19 t && Nat.blt t 108 && Nat.beq (am_ak t) 2 then (0 ≤ j ∧ j < bm_L t i ∧ (x = 0 ∨ x = 1)) ∧ K r (up ι t i j x)
    else False
  | _ => False
def bm_alen (K : List bm_V → Prop) : List bm_V → Prop
  | .inr (.inr (t, i)) :: r => bif Nat.blt 19 t && Nat.blt t 108 then K (bi (bm_L t i) :: r) else bif Nat.blt 199 t && Nat.blt t 212 then K (bi (bm_XL sc t) :: r) else False
  | _ => False
def bm_getr (q : Option (Nat × Int)) (K : List bm_V → Prop) (r : List bm_V) : Prop := match q with
  | some (t, i) => K (br t i :: r)
  | none => False
def bm_getf (a b c : Nat) (ι : bm_S) (K : List bm_V → Prop) : List bm_V → Prop
  | .inr (.inr (t, i)) :: r => bif Nat.beq t a && Nat.blt t 14 && Nat.blt b 66 then (bif Nat.beq c 1 then (bif Nat.beq t 8 && (Nat.beq b 4 || Nat.beq b 6) then i = 0 ∧ K (br 7 (ι 8 0 b) :: r) else bm_getr (bm_RF t i b) K r) else bif Nat.beq t 8 && (Nat.beq b 4 || Nat.beq b 6) then False else K (bi (ι t i b) :: r)) else False
  | _ => False
def bm_putf (a b c : Nat) (ι : bm_S) (K : List bm_V → bm_S → Prop) : List bm_V → Prop
  | .inl x :: .inr (.inr (t, i)) :: r => bif Nat.beq t a && Nat.blt t 14 && !(Nat.beq t 8 && (Nat.beq b 4 || Nat.beq b 6)) then (bif Nat.beq c 0 then K r (up ι t i b x) else bif Nat.beq c 2 then (x = 0 ∨ x = 1) ∧ K r (up ι t i b x) else False) else False
  | .inr (.inr q) :: .inr (.inr (t, i)) :: r => bif Nat.beq t a && Nat.beq t 8 && (Nat.beq b 4 || Nat.beq b 6) && Nat.beq c 1 then (i = 0 ∧ q.1 = 7 ∧ q.2 < 2) ∧ K r (up ι 8 0 b q.2) else False
  | _ => False
def bm_ldi (ls : List bm_V) (k : Nat) (K : bm_V → Prop) : Prop := match ls[k]? with
  | some (.inl x) => K (bi x)
  | _ => False
def bm_lda (ls : List bm_V) (k : Nat) (K : bm_V → Prop) : Prop := match ls[k]? with
  | some (.inr (.inr q)) => K (.inr (.inr q))
  | _ => False
def bm_sto (ls : List bm_V) (k : Nat) (K : List bm_V → List bm_V → Prop) : List bm_V → Prop
  | .inl x :: r => bif Nat.blt k ls.length then K (ls.set k (bi x)) r else False
  | .inr (.inr q) :: r => bif Nat.blt k ls.length then K (ls.set k (.inr (.inr q))) r else False
  | _ => False
def bm_sti (ls : List bm_V) (k : Nat) (K : List bm_V → List bm_V → Prop) : List bm_V → Prop
  | .inl x :: r => bif Nat.blt k ls.length then K (ls.set k (bi x)) r else False
  | _ => False
def bm_sta (ls : List bm_V) (k : Nat) (K : List bm_V → List bm_V → Prop) : List bm_V → Prop
  | .inr (.inr q) :: r => bif Nat.blt k ls.length then K (ls.set k (.inr (.inr q))) r else False
  | _ => False
def bm_inc (ls : List bm_V) (k : Nat) (w : Int) (K : List bm_V → Prop) : Prop := match ls[k]? with
  | some (.inl x) => bm_rg (x + w) ∧ K (ls.set k (bi (x + w)))
  | _ => False
def bm_cmp2 (p : Int → Int → Prop → Prop → Prop) (kt kf : List bm_V → Prop) : List bm_V → Prop
  | .inl y :: .inl x :: r => p x y (kt r) (kf r)
  | _ => False
def bm_cmp1 (p : Int → Prop → Prop → Prop) (kt kf : List bm_V → Prop) : List bm_V → Prop
  | .inl x :: r => p x (kt r) (kf r)
  | _ => False
def bm_inP (K : List bm_V → Prop) : List bm_V → Prop
  | .inr (.inl hi) :: .inr (.inl lo) :: .inr (.inl x) :: r => bif Nat.ble r.length 4 then K (bi (bm_in x lo hi) :: r) else False
  | _ => False
def bm_b4 (f : Int → Int → Int) (K : List bm_V → Prop) : List bm_V → Prop
  | .inl y :: .inl x :: r => bif Nat.ble r.length 4 then K (bi (f x y) :: r) else False
  | _ => False
def bm_recv (c : Nat) : List bm_V → Bool
  | .inr (.inr (t, _)) :: _ => Nat.beq t c
  | _ => false
def bm_nl : bm_V → Bool
  | .inr (.inl _) => false
  | _ => true
def bm_aft (k : Nat) (K : List bm_V → bm_S → Prop) (H : Nat × Int → bm_S → Prop) : bm_O → bm_S → Prop :=
  bif Nat.beq k 0 then bk0 (fun ι => K [] ι) H
  else bif Nat.beq k 1 then bk1 (fun x ι => K [bi x] ι) H
  else bif Nat.beq k 3 then bk3 (fun i ι => K [br 3 i] ι) H
  else bk2 (fun t i ι => K [br t i] ι) H
def bm_call (a b c : Nat) (tb : List (Int32 × Nat)) (st : List bm_V) (ι : bm_S) (K : List bm_V → bm_S → Prop) (KH : Nat → Nat × Int → bm_S → Prop) (Q : bm_O → bm_S → Prop) : Prop :=
  bif Nat.ble b st.length && Nat.ble (st.length - b) 4 && (Nat.beq c 999 || bm_recv c (st.take b).reverse) && (st.take b).all bm_nl then
    bC sc a (st.take b).reverse ι (bm_aft (bm_rt a) (fun v ι => K (v ++ st.drop b) ι) (match tb with
      | [] => bq Q
      | z :: _ => fun q ι => KH z.2 q ι)) else False
def bm_step (K : Nat → List bm_V → List bm_V → bm_S → Prop) (Q : bm_O → bm_S → Prop) (pc : Nat) (ls st : List bm_V) (ι : bm_S) : Option am_Row → Prop
  | none => False
  | some (i, len, w, a, b, c, tb) => match i with
    | .iconst _ => K (pc + len) ls (bi w.toInt :: st) ι
    | .bipush _ => K (pc + len) ls (bi w.toInt :: st) ι
    | .sipush _ => K (pc + len) ls (bi w.toInt :: st) ι
    | .ldc _ => K (pc + len) ls (bi w.toInt :: st) ι
    | .ldc_w _ => K (pc + len) ls (bi w.toInt :: st) ι
    | .lconst _ => K (pc + len) ls (bl w.toInt :: st) ι
    | .ldc2_w _ => K (pc + len) ls (bl w.toInt :: st) ι
    | .iload_n _ => bm_ldi ls a (fun v => K (pc + len) ls (v :: st) ι)
    | .iload _ => bm_ldi ls a (fun v => K (pc + len) ls (v :: st) ι)
    | .aload_n _ => bm_lda ls a (fun v => K (pc + len) ls (v :: st) ι)
    | .aload _ => bm_lda ls a (fun v => K (pc + len) ls (v :: st) ι)
    | .istore_n _ => bm_sti ls a (fun ls r => K (pc + len) ls r ι) st
    | .istore _ => bm_sti ls a (fun ls r => K (pc + len) ls r ι) st
    | .astore_n _ => bm_sta ls a (fun ls r => K (pc + len) ls r ι) st
    | .astore _ => bm_sta ls a (fun ls r => K (pc + len) ls r ι) st
    | .iinc _ _ => bm_inc ls a w.toInt (fun ls => K (pc + len) ls st ι)
    | .iadd => bm_bin (fun x y => bm_rg (x + y)) (fun x y => x + y) (fun r => K (pc + len) ls r ι) st
    | .isub => bm_bin (fun x y => bm_rg (x - y)) (fun x y => x - y) (fun r => K (pc + len) ls r ι) st
    | .imul => bm_bin (fun x y => bm_rg (x * y)) (fun x y => x * y) (fun r => K (pc + len) ls r ι) st
    | .iand => bm_bin0 bm_band (fun r => K (pc + len) ls r ι) st
    | .ior => bm_bin0 bm_or (fun r => K (pc + len) ls r ι) st
    | .ixor => bm_bin0 bm_xor (fun r => K (pc + len) ls r ι) st
    | .ishl => bm_bin (fun x y => (0 ≤ y ∧ y < 32) ∧ bm_rg (x * bm_p2 y)) (fun x y => x * bm_p2 y) (fun r => K (pc + len) ls r ι) st
    | .ishr => bm_bin (fun _ y => 0 ≤ y ∧ y < 32) (fun x y => x / bm_p2 y) (fun r => K (pc + len) ls r ι) st
    | .iushr => bm_bin0 bm_ushr (fun r => K (pc + len) ls r ι) st
    | .idiv => bm_bin (fun x y => 0 ≤ x ∧ 0 < y) (fun x y => x / y) (fun r => K (pc + len) ls r ι) st
    | .irem => bm_bin (fun x y => 0 ≤ x ∧ 0 < y) (fun x y => x % y) (fun r => K (pc + len) ls r ι) st
    | .ineg => (match st with
      | .inl x :: r => bm_rg (-x) ∧ K (pc + len) ls (bi (-x) :: r) ι
      | _ => False)
    | .i2l => (match st with
      | .inl x :: r => K (pc + len) ls (bl x :: r) ι
      | _ => False)
    | .i2b => (match st with
      | .inl x :: r => K (pc + len) ls (bi (bm_byte x) :: r) ι
      | _ => False)
    | .dup => (match st with
      | .inl x :: r => K (pc + len) ls (bi x :: bi x :: r) ι
      | .inr (.inr q) :: r => K (pc + len) ls (.inr (.inr q) :: .inr (.inr q) :: r) ι
      | _ => False)
    | .dup2 => (match st with
      | .inl x :: .inr (.inr q) :: r => K (pc + len) ls (bi x :: .inr (.inr q) :: bi x :: .inr (.inr q) :: r) ι
      | _ => False)
    | .dup_x1 => (match st with
      | .inl x :: .inr (.inr q) :: r => K (pc + len) ls (bi x :: .inr (.inr q) :: bi x :: r) ι
      | _ => False)
    | .goto _ => K a ls st ι
    | .if_icmp cnd _ => (match cnd with
      | .eq => bm_cmp2 (fun x y A B => if x = y then A else B) (fun r => K a ls r ι) (fun r => K (pc + len) ls r ι) st
      | .ne => bm_cmp2 (fun x y A B => if x = y then B else A) (fun r => K a ls r ι) (fun r => K (pc + len) ls r ι) st
      | .lt => bm_cmp2 (fun x y A B => if x < y then A else B) (fun r => K a ls r ι) (fun r => K (pc + len) ls r ι) st
      | .ge => bm_cmp2 (fun x y A B => if y ≤ x then A else B) (fun r => K a ls r ι) (fun r => K (pc + len) ls r ι) st
      | .gt => bm_cmp2 (fun x y A B => if y < x then A else B) (fun r => K a ls r ι) (fun r => K (pc + len) ls r ι) st
      | .le => bm_cmp2 (fun x y A B => if x ≤ y then A else B) (fun r => K a ls r ι) (fun r => K (pc + len) ls r ι) st)
    | .ifCond cnd _ => (match cnd with
      | .eq => bm_cmp1 (fun x A B => if x = 0 then A else B) (fun r => K a ls r ι) (fun r => K (pc + len) ls r ι) st
      | .ne => bm_cmp1 (fun x A B => if x = 0 then B else A) (fun r => K a ls r ι) (fun r => K (pc + len) ls r ι) st
      | .lt => bm_cmp1 (fun x A B => if x < 0 then A else B) (fun r => K a ls r ι) (fun r => K (pc + len) ls r ι) st
      | .ge => bm_cmp1 (fun x A B => if 0 ≤ x then A else B) (fun r => K a ls r ι) (fun r => K (pc + len) ls r ι) st
      | .gt => bm_cmp1 (fun x A B => if 0 < x then A else B) (fun r => K a ls r ι) (fun r => K (pc + len) ls r ι) st
      | .le => bm_cmp1 (fun x A B => if x ≤ 0 then A else B) (fun r => K a ls r ι) (fun r => K (pc + len) ls r ι) st)
    | .tableswitch _ _ _ _ => (match st with
      | .inl x :: r => bm_sw x (fun q => K q ls r ι) a tb
      | _ => False)
    | .lookupswitch _ _ => (match st with
      | .inl x :: r => bm_sw x (fun q => K q ls r ι) a tb
      | _ => False)
    | .iaload => bm_iald sc ι (fun r => K (pc + len) ls r ι) st
    | .baload => bm_bald ι (fun r => K (pc + len) ls r ι) st
    | .aaload => bm_aald (fun r => K (pc + len) ls r ι) st
    | .iastore => bm_iast ι (fun r ι => K (pc + len) ls r ι) st
    | .bastore => bm_bast ι (fun r ι => K (pc + len) ls r ι) st
    | .arraylength => bm_alen sc (fun r => K (pc + len) ls r ι) st
    | .getfield _ => bm_getf a b c ι (fun r => K (pc + len) ls r ι) st
    | .putfield _ => bm_putf a b c ι (fun r ι => K (pc + len) ls r ι) st
    | .getstatic _ => bif Nat.blt 199 a then K (pc + len) ls (br a 0 :: st) ι else False
    | .invokestatic _ => bif Nat.beq a 901 then bm_inP (fun r => K (pc + len) ls r ι) st
      else bif Nat.beq a 902 then bm_b4 (fun x y => max x y) (fun r => K (pc + len) ls r ι) st
      else bif Nat.beq a 903 then bm_b4 (fun x y => min x y) (fun r => K (pc + len) ls r ι) st
      else bm_call sc a b c tb st ι (fun v ι => K (pc + len) ls v ι) (fun h x ι => K h ls [.inr (.inr x)] ι) Q
    | .invokevirtual _ => bm_call sc a b c tb st ι (fun v ι => K (pc + len) ls v ι) (fun h x ι => K h ls [.inr (.inr x)] ι) Q
    | .invokespecial _ => bif Nat.beq a 900 then False else bm_call sc a b c tb st ι (fun v ι => K (pc + len) ls v ι) (fun h x ι => K h ls [.inr (.inr x)] ι) Q
    | .athrow => (match st with
      | .inr (.inr (t, i)) :: _ => bif Nat.beq t 12 then Q (.inr (t, i)) ι else False
      | _ => False)
    | .ireturn => (match st with
      | [.inl x] => bif Nat.beq a 1 then (x = 0 ∨ x = 1) ∧ Q (.inl (some (bi x))) ι else Q (.inl (some (bi x))) ι
      | _ => False)
    | .areturn => (match st with
      | [.inr (.inr q)] => Q (.inl (some (.inr (.inr q)))) ι
      | _ => False)
    | .return_ => (match st with
      | [] => Q (.inl none) ι
      | _ => False)
    | _ => False
/-- a stretch up to the next places of ct -/
def bm_wp (y : Nat) (ct : List Nat) (Q : bm_O → bm_S → Prop) : Nat → Nat → List bm_V → List bm_V → bm_S → Prop
  | 0, pc, ls, st, ι => bW sc y pc ls st ι Q
  | n + 1, pc, ls, st, ι => bm_step sc (fun pc ls st ι => bif ct.any (Nat.beq pc) then bW sc y pc ls st ι Q else bm_wp y ct Q n pc ls st ι) Q pc ls st ι (am_look (am_code y) pc)
end BmStep
