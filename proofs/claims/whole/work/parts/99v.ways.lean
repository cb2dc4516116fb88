/-! pack: what is chosen at each place -/
section Ways
variable {sc : bm_Sc} {ι : bm_S} {H : Nat × Int → bm_S → Prop} {T : Int → Int} {N : Int} {g c : Int → Int} {K : bm_S → Prop}
def w1 (a b : Int) : Int := if a = 0 ∧ b = 0 then 0 else if a < b then 2 else 1
def x2 (a : Int) (C : Int → Int) (p : Int) : Int := if 0 < a then 24 + C (p + a) else 1000000
def w2 (a b : Int) (C : Int → Int) (p : Int) : Int := if x2 a C p ≤ x2 b C p ∧ x2 a C p ≤ 9 + C (p + 1) then 1 else if x2 b C p ≤ 9 + C (p + 1) then 2 else 0
def c2 (a b : Int) (C : Int → Int) (p : Int) : Int := if w2 a b C p = 1 then x2 a C p else if w2 a b C p = 2 then x2 b C p else 9 + C (p + 1)
def cC (a b : Int → Int) (N : Int) : Nat → Int → Int
  | 0, _ => 0
  | m + 1, q => if q = N - ((m + 1 : Nat) : Int) then c2 (a q) (b q) (cC a b N m) q else cC a b N m q
def wy (lv : Int) (a b : Int → Int) (N p : Int) : Int := if lv = 1 then w1 (a p) (b p) else w2 (a p) (b p) (cC a b N (N - p - 1).toNat) p
def mk (lv : Int) (a b : Int → Int) (N p : Int) : Int := if wy lv a b N p = 0 then 1 else if wy lv a b N p = 1 then a p else b p
def rch (f : Int → Int) (N : Int) : Nat → Int
  | 0 => 0
  | i + 1 => if rch f N i < N then rch f N i + f (rch f N i) else rch f N i
/-- copies and words end within the row -/
def AB (a b : Int → Int) (N : Int) : Prop := ∀ p, 0 ≤ p → p < N → (a p = 0 ∨ 4 ≤ a p ∧ p + a p ≤ N) ∧ (b p = 0 ∨ 4 ≤ b p ∧ p + b p ≤ N)
theorem cC_rg {a b : Int → Int} (hab : AB a b N) (hN : N ≤ 2000) : ∀ m : Nat, (m : Int) ≤ N → ∀ q, N - m ≤ q → q ≤ N → 0 ≤ cC a b N m q ∧ cC a b N m q ≤ 9 * (N - q)
  | 0, _, q, h1, h2 => by show 0 ≤ (0 : Int) ∧ (0 : Int) ≤ 9 * (N - q); omega
  | m + 1, hm, q, h1, h2 => by
    have ih := cC_rg hab hN m (by omega)
    show 0 ≤ (if q = N - ((m + 1 : Nat) : Int) then c2 (a q) (b q) (cC a b N m) q else cC a b N m q) ∧ (if q = N - ((m + 1 : Nat) : Int) then c2 (a q) (b q) (cC a b N m) q else cC a b N m q) ≤ 9 * (N - q)
    by_cases z : q = N - ((m + 1 : Nat) : Int)
    · rw [if_pos z]
      have h := hab q (by omega) (by omega)
      have i1 := ih (q + 1) (by omega) (by omega)
      have xa : (0 < a q → 0 ≤ cC a b N m (q + a q)) := fun w => (ih (q + a q) (by omega) (by omega)).1
      have xb : (0 < b q → 0 ≤ cC a b N m (q + b q)) := fun w => (ih (q + b q) (by omega) (by omega)).1
      have ra : 0 ≤ x2 (a q) (cC a b N m) q := by
        unfold x2
        by_cases w : 0 < a q
        · rw [if_pos w]; have := xa w; omega
        · rw [if_neg w]; omega
      have rb : 0 ≤ x2 (b q) (cC a b N m) q := by
        unfold x2
        by_cases w : 0 < b q
        · rw [if_pos w]; have := xb w; omega
        · rw [if_neg w]; omega
      unfold c2 w2
      by_cases z1 : x2 (a q) (cC a b N m) q ≤ x2 (b q) (cC a b N m) q ∧ x2 (a q) (cC a b N m) q ≤ 9 + cC a b N m (q + 1)
      · rw [if_pos z1, if_pos rfl]; omega
      · rw [if_neg z1]
        by_cases z2 : x2 (b q) (cC a b N m) q ≤ 9 + cC a b N m (q + 1)
        · rw [if_pos z2, if_neg (by omega), if_pos rfl]; omega
        · rw [if_neg z2, if_neg (by omega), if_neg (by omega)]; omega
    · rw [if_neg z]; exact ih q (by omega) h2
theorem wy_rg {a b : Int → Int} {lv p : Int} (hab : AB a b N) (hN : N ≤ 2000) (hp : 0 ≤ p ∧ p < N) : (wy lv a b N p = 0 ∨ wy lv a b N p = 1 ∧ 4 ≤ a p ∨ wy lv a b N p = 2 ∧ 4 ≤ b p) := by
  have h := hab p hp.1 hp.2
  unfold wy
  by_cases c : lv = 1
  · rw [if_pos c]; unfold w1
    by_cases z : a p = 0 ∧ b p = 0
    · rw [if_pos z]; omega
    · rw [if_neg z]
      by_cases z1 : a p < b p
      · rw [if_pos z1]; omega
      · rw [if_neg z1]; omega
  · rw [if_neg c]
    have i1 := cC_rg hab hN (N - p - 1).toNat (by omega) (p + 1) (by omega) (by omega)
    have xa : a p = 0 → x2 (a p) (cC a b N (N - p - 1).toNat) p = 1000000 := fun w => by unfold x2; rw [if_neg (by omega)]
    have xb : b p = 0 → x2 (b p) (cC a b N (N - p - 1).toNat) p = 1000000 := fun w => by unfold x2; rw [if_neg (by omega)]
    unfold w2
    by_cases z1 : x2 (a p) (cC a b N (N - p - 1).toNat) p ≤ x2 (b p) (cC a b N (N - p - 1).toNat) p ∧ x2 (a p) (cC a b N (N - p - 1).toNat) p ≤ 9 + cC a b N (N - p - 1).toNat (p + 1)
    · rw [if_pos z1]
      by_cases q : a p = 0
      · have := xa q; omega
      · omega
    · rw [if_neg z1]
      by_cases z2 : x2 (b p) (cC a b N (N - p - 1).toNat) p ≤ 9 + cC a b N (N - p - 1).toNat (p + 1)
      · rw [if_pos z2]
        by_cases q : b p = 0
        · have := xb q; omega
        · omega
      · rw [if_neg z2]; omega
theorem mk_rg {a b : Int → Int} {lv p : Int} (hab : AB a b N) (hN : N ≤ 2000) (hp : 0 ≤ p ∧ p < N) : 1 ≤ mk lv a b N p ∧ p + mk lv a b N p ≤ N := by
  have h := wy_rg (lv := lv) hab hN hp
  have h2 := hab p hp.1 hp.2
  unfold mk
  by_cases z0 : wy lv a b N p = 0
  · rw [if_pos z0]; omega
  · rw [if_neg z0]
    by_cases z1 : wy lv a b N p = 1
    · rw [if_pos z1]; omega
    · rw [if_neg z1]; omega
/-! the other -/
def fwB (sc : bm_Sc) (Q : bm_O → bm_S → Prop) (x1 x2 : Int) (v5 v6 v7 : bm_V) (ι2 : bm_S) : Prop := (0 ≤ x2 ∧ x2 < (2001 : Int)) ∧ (0 ≤ x2 ∧ x2 < (2001 : Int)) ∧ (if x1 = (1 : Int) then (if ι2 96 0 x2 = (0 : Int) then (if ι2 98 0 x2 = (0 : Int) then (0 ≤ x2 ∧ x2 < (2001 : Int)) ∧ bW sc 248 219 [br 13 0, bi x1, bi x2, bi (ι2 96 0 x2), bi (ι2 98 0 x2), v5, v6, v7] [] (up ι2 102 0 x2 0) Q else (if ι2 96 0 x2 < ι2 98 0 x2 then (0 ≤ x2 ∧ x2 < (2001 : Int)) ∧ bW sc 248 219 [br 13 0, bi x1, bi x2, bi (ι2 96 0 x2), bi (ι2 98 0 x2), v5, v6, v7] [] (up ι2 102 0 x2 2) Q else (0 ≤ x2 ∧ x2 < (2001 : Int)) ∧ bW sc 248 219 [br 13 0, bi x1, bi x2, bi (ι2 96 0 x2), bi (ι2 98 0 x2), v5, v6, v7] [] (up ι2 102 0 x2 1) Q)) else (if ι2 96 0 x2 < ι2 98 0 x2 then (0 ≤ x2 ∧ x2 < (2001 : Int)) ∧ bW sc 248 219 [br 13 0, bi x1, bi x2, bi (ι2 96 0 x2), bi (ι2 98 0 x2), v5, v6, v7] [] (up ι2 102 0 x2 2) Q else (0 ≤ x2 ∧ x2 < (2001 : Int)) ∧ bW sc 248 219 [br 13 0, bi x1, bi x2, bi (ι2 96 0 x2), bi (ι2 98 0 x2), v5, v6, v7] [] (up ι2 102 0 x2 1) Q)) else (if ι2 96 0 x2 ≤ (0 : Int) then (if ι2 98 0 x2 ≤ (0 : Int) then (bm_rg (x2 + 1)) ∧ (0 ≤ x2 + 1 ∧ x2 + 1 < (2001 : Int)) ∧ (bm_rg (9 + ι2 103 0 (x2 + 1))) ∧ (if 9 + ι2 103 0 (x2 + 1) < (1000000 : Int) then (if 9 + ι2 103 0 (x2 + 1) < (1000000 : Int) then (0 ≤ x2 ∧ x2 < (2001 : Int)) ∧ (0 ≤ x2 ∧ x2 < (2001 : Int)) ∧ (if (up ι2 102 0 x2 0) 102 0 x2 = (1 : Int) then (0 ≤ x2 ∧ x2 < (2001 : Int)) ∧ bW sc 248 219 [br 13 0, bi x1, bi x2, bi (ι2 96 0 x2), bi (ι2 98 0 x2), bi 1000000, bi 1000000, bi (9 + ι2 103 0 (x2 + 1))] [] (up (up ι2 102 0 x2 0) 103 0 x2 1000000) Q else (0 ≤ x2 ∧ x2 < (2001 : Int)) ∧ (if (up ι2 102 0 x2 0) 102 0 x2 = (2 : Int) then (0 ≤ x2 ∧ x2 < (2001 : Int)) ∧ bW sc 248 219 [br 13 0, bi x1, bi x2, bi (ι2 96 0 x2), bi (ι2 98 0 x2), bi 1000000, bi 1000000, bi (9 + ι2 103 0 (x2 + 1))] [] (up (up ι2 102 0 x2 0) 103 0 x2 1000000) Q else (0 ≤ x2 ∧ x2 < (2001 : Int)) ∧ bW sc 248 219 [br 13 0, bi x1, bi x2, bi (ι2 96 0 x2), bi (ι2 98 0 x2), bi 1000000, bi 1000000, bi (9 + ι2 103 0 (x2 + 1))] [] (up (up ι2 102 0 x2 0) 103 0 x2 (9 + ι2 103 0 (x2 + 1))) Q)) else (0 ≤ x2 ∧ x2 < (2001 : Int)) ∧ (0 ≤ x2 ∧ x2 < (2001 : Int)) ∧ (if (up ι2 102 0 x2 2) 102 0 x2 = (1 : Int) then (0 ≤ x2 ∧ x2 < (2001 : Int)) ∧ bW sc 248 219 [br 13 0, bi x1, bi x2, bi (ι2 96 0 x2), bi (ι2 98 0 x2), bi 1000000, bi 1000000, bi (9 + ι2 103 0 (x2 + 1))] [] (up (up ι2 102 0 x2 2) 103 0 x2 1000000) Q else (0 ≤ x2 ∧ x2 < (2001 : Int)) ∧ (if (up ι2 102 0 x2 2) 102 0 x2 = (2 : Int) then (0 ≤ x2 ∧ x2 < (2001 : Int)) ∧ bW sc 248 219 [br 13 0, bi x1, bi x2, bi (ι2 96 0 x2), bi (ι2 98 0 x2), bi 1000000, bi 1000000, bi (9 + ι2 103 0 (x2 + 1))] [] (up (up ι2 102 0 x2 2) 103 0 x2 1000000) Q else (0 ≤ x2 ∧ x2 < (2001 : Int)) ∧ bW sc 248 219 [br 13 0, bi x1, bi x2, bi (ι2 96 0 x2), bi (ι2 98 0 x2), bi 1000000, bi 1000000, bi (9 + ι2 103 0 (x2 + 1))] [] (up (up ι2 102 0 x2 2) 103 0 x2 (9 + ι2 103 0 (x2 + 1))) Q))) else (0 ≤ x2 ∧ x2 < (2001 : Int)) ∧ (0 ≤ x2 ∧ x2 < (2001 : Int)) ∧ (if (up ι2 102 0 x2 1) 102 0 x2 = (1 : Int) then (0 ≤ x2 ∧ x2 < (2001 : Int)) ∧ bW sc 248 219 [br 13 0, bi x1, bi x2, bi (ι2 96 0 x2), bi (ι2 98 0 x2), bi 1000000, bi 1000000, bi (9 + ι2 103 0 (x2 + 1))] [] (up (up ι2 102 0 x2 1) 103 0 x2 1000000) Q else (0 ≤ x2 ∧ x2 < (2001 : Int)) ∧ (if (up ι2 102 0 x2 1) 102 0 x2 = (2 : Int) then (0 ≤ x2 ∧ x2 < (2001 : Int)) ∧ bW sc 248 219 [br 13 0, bi x1, bi x2, bi (ι2 96 0 x2), bi (ι2 98 0 x2), bi 1000000, bi 1000000, bi (9 + ι2 103 0 (x2 + 1))] [] (up (up ι2 102 0 x2 1) 103 0 x2 1000000) Q else (0 ≤ x2 ∧ x2 < (2001 : Int)) ∧ bW sc 248 219 [br 13 0, bi x1, bi x2, bi (ι2 96 0 x2), bi (ι2 98 0 x2), bi 1000000, bi 1000000, bi (9 + ι2 103 0 (x2 + 1))] [] (up (up ι2 102 0 x2 1) 103 0 x2 (9 + ι2 103 0 (x2 + 1))) Q))) else (bm_rg (x2 + ι2 98 0 x2)) ∧ (0 ≤ x2 + ι2 98 0 x2 ∧ x2 + ι2 98 0 x2 < (2001 : Int)) ∧ (bm_rg (24 + ι2 103 0 (x2 + ι2 98 0 x2))) ∧ (bm_rg (x2 + 1)) ∧ (0 ≤ x2 + 1 ∧ x2 + 1 < (2001 : Int)) ∧ (bm_rg (9 + ι2 103 0 (x2 + 1))) ∧ (if 24 + ι2 103 0 (x2 + ι2 98 0 x2) < (1000000 : Int) then (if 9 + ι2 103 0 (x2 + 1) < 24 + ι2 103 0 (x2 + ι2 98 0 x2) then (0 ≤ x2 ∧ x2 < (2001 : Int)) ∧ (0 ≤ x2 ∧ x2 < (2001 : Int)) ∧ (if (up ι2 102 0 x2 0) 102 0 x2 = (1 : Int) then (0 ≤ x2 ∧ x2 < (2001 : Int)) ∧ bW sc 248 219 [br 13 0, bi x1, bi x2, bi (ι2 96 0 x2), bi (ι2 98 0 x2), bi 1000000, bi (24 + ι2 103 0 (x2 + ι2 98 0 x2)), bi (9 + ι2 103 0 (x2 + 1))] [] (up (up ι2 102 0 x2 0) 103 0 x2 1000000) Q else (0 ≤ x2 ∧ x2 < (2001 : Int)) ∧ (if (up ι2 102 0 x2 0) 102 0 x2 = (2 : Int) then (0 ≤ x2 ∧ x2 < (2001 : Int)) ∧ bW sc 248 219 [br 13 0, bi x1, bi x2, bi (ι2 96 0 x2), bi (ι2 98 0 x2), bi 1000000, bi (24 + ι2 103 0 (x2 + ι2 98 0 x2)), bi (9 + ι2 103 0 (x2 + 1))] [] (up (up ι2 102 0 x2 0) 103 0 x2 (24 + ι2 103 0 (x2 + ι2 98 0 x2))) Q else (0 ≤ x2 ∧ x2 < (2001 : Int)) ∧ bW sc 248 219 [br 13 0, bi x1, bi x2, bi (ι2 96 0 x2), bi (ι2 98 0 x2), bi 1000000, bi (24 + ι2 103 0 (x2 + ι2 98 0 x2)), bi (9 + ι2 103 0 (x2 + 1))] [] (up (up ι2 102 0 x2 0) 103 0 x2 (9 + ι2 103 0 (x2 + 1))) Q)) else (0 ≤ x2 ∧ x2 < (2001 : Int)) ∧ (0 ≤ x2 ∧ x2 < (2001 : Int)) ∧ (if (up ι2 102 0 x2 2) 102 0 x2 = (1 : Int) then (0 ≤ x2 ∧ x2 < (2001 : Int)) ∧ bW sc 248 219 [br 13 0, bi x1, bi x2, bi (ι2 96 0 x2), bi (ι2 98 0 x2), bi 1000000, bi (24 + ι2 103 0 (x2 + ι2 98 0 x2)), bi (9 + ι2 103 0 (x2 + 1))] [] (up (up ι2 102 0 x2 2) 103 0 x2 1000000) Q else (0 ≤ x2 ∧ x2 < (2001 : Int)) ∧ (if (up ι2 102 0 x2 2) 102 0 x2 = (2 : Int) then (0 ≤ x2 ∧ x2 < (2001 : Int)) ∧ bW sc 248 219 [br 13 0, bi x1, bi x2, bi (ι2 96 0 x2), bi (ι2 98 0 x2), bi 1000000, bi (24 + ι2 103 0 (x2 + ι2 98 0 x2)), bi (9 + ι2 103 0 (x2 + 1))] [] (up (up ι2 102 0 x2 2) 103 0 x2 (24 + ι2 103 0 (x2 + ι2 98 0 x2))) Q else (0 ≤ x2 ∧ x2 < (2001 : Int)) ∧ bW sc 248 219 [br 13 0, bi x1, bi x2, bi (ι2 96 0 x2), bi (ι2 98 0 x2), bi 1000000, bi (24 + ι2 103 0 (x2 + ι2 98 0 x2)), bi (9 + ι2 103 0 (x2 + 1))] [] (up (up ι2 102 0 x2 2) 103 0 x2 (9 + ι2 103 0 (x2 + 1))) Q))) else (if 9 + ι2 103 0 (x2 + 1) < (1000000 : Int) then (if 9 + ι2 103 0 (x2 + 1) < 24 + ι2 103 0 (x2 + ι2 98 0 x2) then (0 ≤ x2 ∧ x2 < (2001 : Int)) ∧ (0 ≤ x2 ∧ x2 < (2001 : Int)) ∧ (if (up ι2 102 0 x2 0) 102 0 x2 = (1 : Int) then (0 ≤ x2 ∧ x2 < (2001 : Int)) ∧ bW sc 248 219 [br 13 0, bi x1, bi x2, bi (ι2 96 0 x2), bi (ι2 98 0 x2), bi 1000000, bi (24 + ι2 103 0 (x2 + ι2 98 0 x2)), bi (9 + ι2 103 0 (x2 + 1))] [] (up (up ι2 102 0 x2 0) 103 0 x2 1000000) Q else (0 ≤ x2 ∧ x2 < (2001 : Int)) ∧ (if (up ι2 102 0 x2 0) 102 0 x2 = (2 : Int) then (0 ≤ x2 ∧ x2 < (2001 : Int)) ∧ bW sc 248 219 [br 13 0, bi x1, bi x2, bi (ι2 96 0 x2), bi (ι2 98 0 x2), bi 1000000, bi (24 + ι2 103 0 (x2 + ι2 98 0 x2)), bi (9 + ι2 103 0 (x2 + 1))] [] (up (up ι2 102 0 x2 0) 103 0 x2 (24 + ι2 103 0 (x2 + ι2 98 0 x2))) Q else (0 ≤ x2 ∧ x2 < (2001 : Int)) ∧ bW sc 248 219 [br 13 0, bi x1, bi x2, bi (ι2 96 0 x2), bi (ι2 98 0 x2), bi 1000000, bi (24 + ι2 103 0 (x2 + ι2 98 0 x2)), bi (9 + ι2 103 0 (x2 + 1))] [] (up (up ι2 102 0 x2 0) 103 0 x2 (9 + ι2 103 0 (x2 + 1))) Q)) else (0 ≤ x2 ∧ x2 < (2001 : Int)) ∧ (0 ≤ x2 ∧ x2 < (2001 : Int)) ∧ (if (up ι2 102 0 x2 2) 102 0 x2 = (1 : Int) then (0 ≤ x2 ∧ x2 < (2001 : Int)) ∧ bW sc 248 219 [br 13 0, bi x1, bi x2, bi (ι2 96 0 x2), bi (ι2 98 0 x2), bi 1000000, bi (24 + ι2 103 0 (x2 + ι2 98 0 x2)), bi (9 + ι2 103 0 (x2 + 1))] [] (up (up ι2 102 0 x2 2) 103 0 x2 1000000) Q else (0 ≤ x2 ∧ x2 < (2001 : Int)) ∧ (if (up ι2 102 0 x2 2) 102 0 x2 = (2 : Int) then (0 ≤ x2 ∧ x2 < (2001 : Int)) ∧ bW sc 248 219 [br 13 0, bi x1, bi x2, bi (ι2 96 0 x2), bi (ι2 98 0 x2), bi 1000000, bi (24 + ι2 103 0 (x2 + ι2 98 0 x2)), bi (9 + ι2 103 0 (x2 + 1))] [] (up (up ι2 102 0 x2 2) 103 0 x2 (24 + ι2 103 0 (x2 + ι2 98 0 x2))) Q else (0 ≤ x2 ∧ x2 < (2001 : Int)) ∧ bW sc 248 219 [br 13 0, bi x1, bi x2, bi (ι2 96 0 x2), bi (ι2 98 0 x2), bi 1000000, bi (24 + ι2 103 0 (x2 + ι2 98 0 x2)), bi (9 + ι2 103 0 (x2 + 1))] [] (up (up ι2 102 0 x2 2) 103 0 x2 (9 + ι2 103 0 (x2 + 1))) Q))) else (0 ≤ x2 ∧ x2 < (2001 : Int)) ∧ (0 ≤ x2 ∧ x2 < (2001 : Int)) ∧ (if (up ι2 102 0 x2 1) 102 0 x2 = (1 : Int) then (0 ≤ x2 ∧ x2 < (2001 : Int)) ∧ bW sc 248 219 [br 13 0, bi x1, bi x2, bi (ι2 96 0 x2), bi (ι2 98 0 x2), bi 1000000, bi (24 + ι2 103 0 (x2 + ι2 98 0 x2)), bi (9 + ι2 103 0 (x2 + 1))] [] (up (up ι2 102 0 x2 1) 103 0 x2 1000000) Q else (0 ≤ x2 ∧ x2 < (2001 : Int)) ∧ (if (up ι2 102 0 x2 1) 102 0 x2 = (2 : Int) then (0 ≤ x2 ∧ x2 < (2001 : Int)) ∧ bW sc 248 219 [br 13 0, bi x1, bi x2, bi (ι2 96 0 x2), bi (ι2 98 0 x2), bi 1000000, bi (24 + ι2 103 0 (x2 + ι2 98 0 x2)), bi (9 + ι2 103 0 (x2 + 1))] [] (up (up ι2 102 0 x2 1) 103 0 x2 (24 + ι2 103 0 (x2 + ι2 98 0 x2))) Q else (0 ≤ x2 ∧ x2 < (2001 : Int)) ∧ bW sc 248 219 [br 13 0, bi x1, bi x2, bi (ι2 96 0 x2), bi (ι2 98 0 x2), bi 1000000, bi (24 + ι2 103 0 (x2 + ι2 98 0 x2)), bi (9 + ι2 103 0 (x2 + 1))] [] (up (up ι2 102 0 x2 1) 103 0 x2 (9 + ι2 103 0 (x2 + 1))) Q))))) else (bm_rg (x2 + ι2 96 0 x2)) ∧ (0 ≤ x2 + ι2 96 0 x2 ∧ x2 + ι2 96 0 x2 < (2001 : Int)) ∧ (bm_rg (24 + ι2 103 0 (x2 + ι2 96 0 x2))) ∧ (if ι2 98 0 x2 ≤ (0 : Int) then (bm_rg (x2 + 1)) ∧ (0 ≤ x2 + 1 ∧ x2 + 1 < (2001 : Int)) ∧ (bm_rg (9 + ι2 103 0 (x2 + 1))) ∧ (if (1000000 : Int) < 24 + ι2 103 0 (x2 + ι2 96 0 x2) then (if 9 + ι2 103 0 (x2 + 1) < (1000000 : Int) then (0 ≤ x2 ∧ x2 < (2001 : Int)) ∧ (0 ≤ x2 ∧ x2 < (2001 : Int)) ∧ (if (up ι2 102 0 x2 0) 102 0 x2 = (1 : Int) then (0 ≤ x2 ∧ x2 < (2001 : Int)) ∧ bW sc 248 219 [br 13 0, bi x1, bi x2, bi (ι2 96 0 x2), bi (ι2 98 0 x2), bi (24 + ι2 103 0 (x2 + ι2 96 0 x2)), bi 1000000, bi (9 + ι2 103 0 (x2 + 1))] [] (up (up ι2 102 0 x2 0) 103 0 x2 (24 + ι2 103 0 (x2 + ι2 96 0 x2))) Q else (0 ≤ x2 ∧ x2 < (2001 : Int)) ∧ (if (up ι2 102 0 x2 0) 102 0 x2 = (2 : Int) then (0 ≤ x2 ∧ x2 < (2001 : Int)) ∧ bW sc 248 219 [br 13 0, bi x1, bi x2, bi (ι2 96 0 x2), bi (ι2 98 0 x2), bi (24 + ι2 103 0 (x2 + ι2 96 0 x2)), bi 1000000, bi (9 + ι2 103 0 (x2 + 1))] [] (up (up ι2 102 0 x2 0) 103 0 x2 1000000) Q else (0 ≤ x2 ∧ x2 < (2001 : Int)) ∧ bW sc 248 219 [br 13 0, bi x1, bi x2, bi (ι2 96 0 x2), bi (ι2 98 0 x2), bi (24 + ι2 103 0 (x2 + ι2 96 0 x2)), bi 1000000, bi (9 + ι2 103 0 (x2 + 1))] [] (up (up ι2 102 0 x2 0) 103 0 x2 (9 + ι2 103 0 (x2 + 1))) Q)) else (0 ≤ x2 ∧ x2 < (2001 : Int)) ∧ (0 ≤ x2 ∧ x2 < (2001 : Int)) ∧ (if (up ι2 102 0 x2 2) 102 0 x2 = (1 : Int) then (0 ≤ x2 ∧ x2 < (2001 : Int)) ∧ bW sc 248 219 [br 13 0, bi x1, bi x2, bi (ι2 96 0 x2), bi (ι2 98 0 x2), bi (24 + ι2 103 0 (x2 + ι2 96 0 x2)), bi 1000000, bi (9 + ι2 103 0 (x2 + 1))] [] (up (up ι2 102 0 x2 2) 103 0 x2 (24 + ι2 103 0 (x2 + ι2 96 0 x2))) Q else (0 ≤ x2 ∧ x2 < (2001 : Int)) ∧ (if (up ι2 102 0 x2 2) 102 0 x2 = (2 : Int) then (0 ≤ x2 ∧ x2 < (2001 : Int)) ∧ bW sc 248 219 [br 13 0, bi x1, bi x2, bi (ι2 96 0 x2), bi (ι2 98 0 x2), bi (24 + ι2 103 0 (x2 + ι2 96 0 x2)), bi 1000000, bi (9 + ι2 103 0 (x2 + 1))] [] (up (up ι2 102 0 x2 2) 103 0 x2 1000000) Q else (0 ≤ x2 ∧ x2 < (2001 : Int)) ∧ bW sc 248 219 [br 13 0, bi x1, bi x2, bi (ι2 96 0 x2), bi (ι2 98 0 x2), bi (24 + ι2 103 0 (x2 + ι2 96 0 x2)), bi 1000000, bi (9 + ι2 103 0 (x2 + 1))] [] (up (up ι2 102 0 x2 2) 103 0 x2 (9 + ι2 103 0 (x2 + 1))) Q))) else (if 9 + ι2 103 0 (x2 + 1) < 24 + ι2 103 0 (x2 + ι2 96 0 x2) then (if 9 + ι2 103 0 (x2 + 1) < (1000000 : Int) then (0 ≤ x2 ∧ x2 < (2001 : Int)) ∧ (0 ≤ x2 ∧ x2 < (2001 : Int)) ∧ (if (up ι2 102 0 x2 0) 102 0 x2 = (1 : Int) then (0 ≤ x2 ∧ x2 < (2001 : Int)) ∧ bW sc 248 219 [br 13 0, bi x1, bi x2, bi (ι2 96 0 x2), bi (ι2 98 0 x2), bi (24 + ι2 103 0 (x2 + ι2 96 0 x2)), bi 1000000, bi (9 + ι2 103 0 (x2 + 1))] [] (up (up ι2 102 0 x2 0) 103 0 x2 (24 + ι2 103 0 (x2 + ι2 96 0 x2))) Q else (0 ≤ x2 ∧ x2 < (2001 : Int)) ∧ (if (up ι2 102 0 x2 0) 102 0 x2 = (2 : Int) then (0 ≤ x2 ∧ x2 < (2001 : Int)) ∧ bW sc 248 219 [br 13 0, bi x1, bi x2, bi (ι2 96 0 x2), bi (ι2 98 0 x2), bi (24 + ι2 103 0 (x2 + ι2 96 0 x2)), bi 1000000, bi (9 + ι2 103 0 (x2 + 1))] [] (up (up ι2 102 0 x2 0) 103 0 x2 1000000) Q else (0 ≤ x2 ∧ x2 < (2001 : Int)) ∧ bW sc 248 219 [br 13 0, bi x1, bi x2, bi (ι2 96 0 x2), bi (ι2 98 0 x2), bi (24 + ι2 103 0 (x2 + ι2 96 0 x2)), bi 1000000, bi (9 + ι2 103 0 (x2 + 1))] [] (up (up ι2 102 0 x2 0) 103 0 x2 (9 + ι2 103 0 (x2 + 1))) Q)) else (0 ≤ x2 ∧ x2 < (2001 : Int)) ∧ (0 ≤ x2 ∧ x2 < (2001 : Int)) ∧ (if (up ι2 102 0 x2 2) 102 0 x2 = (1 : Int) then (0 ≤ x2 ∧ x2 < (2001 : Int)) ∧ bW sc 248 219 [br 13 0, bi x1, bi x2, bi (ι2 96 0 x2), bi (ι2 98 0 x2), bi (24 + ι2 103 0 (x2 + ι2 96 0 x2)), bi 1000000, bi (9 + ι2 103 0 (x2 + 1))] [] (up (up ι2 102 0 x2 2) 103 0 x2 (24 + ι2 103 0 (x2 + ι2 96 0 x2))) Q else (0 ≤ x2 ∧ x2 < (2001 : Int)) ∧ (if (up ι2 102 0 x2 2) 102 0 x2 = (2 : Int) then (0 ≤ x2 ∧ x2 < (2001 : Int)) ∧ bW sc 248 219 [br 13 0, bi x1, bi x2, bi (ι2 96 0 x2), bi (ι2 98 0 x2), bi (24 + ι2 103 0 (x2 + ι2 96 0 x2)), bi 1000000, bi (9 + ι2 103 0 (x2 + 1))] [] (up (up ι2 102 0 x2 2) 103 0 x2 1000000) Q else (0 ≤ x2 ∧ x2 < (2001 : Int)) ∧ bW sc 248 219 [br 13 0, bi x1, bi x2, bi (ι2 96 0 x2), bi (ι2 98 0 x2), bi (24 + ι2 103 0 (x2 + ι2 96 0 x2)), bi 1000000, bi (9 + ι2 103 0 (x2 + 1))] [] (up (up ι2 102 0 x2 2) 103 0 x2 (9 + ι2 103 0 (x2 + 1))) Q))) else (0 ≤ x2 ∧ x2 < (2001 : Int)) ∧ (0 ≤ x2 ∧ x2 < (2001 : Int)) ∧ (if (up ι2 102 0 x2 1) 102 0 x2 = (1 : Int) then (0 ≤ x2 ∧ x2 < (2001 : Int)) ∧ bW sc 248 219 [br 13 0, bi x1, bi x2, bi (ι2 96 0 x2), bi (ι2 98 0 x2), bi (24 + ι2 103 0 (x2 + ι2 96 0 x2)), bi 1000000, bi (9 + ι2 103 0 (x2 + 1))] [] (up (up ι2 102 0 x2 1) 103 0 x2 (24 + ι2 103 0 (x2 + ι2 96 0 x2))) Q else (0 ≤ x2 ∧ x2 < (2001 : Int)) ∧ (if (up ι2 102 0 x2 1) 102 0 x2 = (2 : Int) then (0 ≤ x2 ∧ x2 < (2001 : Int)) ∧ bW sc 248 219 [br 13 0, bi x1, bi x2, bi (ι2 96 0 x2), bi (ι2 98 0 x2), bi (24 + ι2 103 0 (x2 + ι2 96 0 x2)), bi 1000000, bi (9 + ι2 103 0 (x2 + 1))] [] (up (up ι2 102 0 x2 1) 103 0 x2 1000000) Q else (0 ≤ x2 ∧ x2 < (2001 : Int)) ∧ bW sc 248 219 [br 13 0, bi x1, bi x2, bi (ι2 96 0 x2), bi (ι2 98 0 x2), bi (24 + ι2 103 0 (x2 + ι2 96 0 x2)), bi 1000000, bi (9 + ι2 103 0 (x2 + 1))] [] (up (up ι2 102 0 x2 1) 103 0 x2 (9 + ι2 103 0 (x2 + 1))) Q)))) else (bm_rg (x2 + ι2 98 0 x2)) ∧ (0 ≤ x2 + ι2 98 0 x2 ∧ x2 + ι2 98 0 x2 < (2001 : Int)) ∧ (bm_rg (24 + ι2 103 0 (x2 + ι2 98 0 x2))) ∧ (bm_rg (x2 + 1)) ∧ (0 ≤ x2 + 1 ∧ x2 + 1 < (2001 : Int)) ∧ (bm_rg (9 + ι2 103 0 (x2 + 1))) ∧ (if 24 + ι2 103 0 (x2 + ι2 98 0 x2) < 24 + ι2 103 0 (x2 + ι2 96 0 x2) then (if 9 + ι2 103 0 (x2 + 1) < 24 + ι2 103 0 (x2 + ι2 98 0 x2) then (0 ≤ x2 ∧ x2 < (2001 : Int)) ∧ (0 ≤ x2 ∧ x2 < (2001 : Int)) ∧ (if (up ι2 102 0 x2 0) 102 0 x2 = (1 : Int) then (0 ≤ x2 ∧ x2 < (2001 : Int)) ∧ bW sc 248 219 [br 13 0, bi x1, bi x2, bi (ι2 96 0 x2), bi (ι2 98 0 x2), bi (24 + ι2 103 0 (x2 + ι2 96 0 x2)), bi (24 + ι2 103 0 (x2 + ι2 98 0 x2)), bi (9 + ι2 103 0 (x2 + 1))] [] (up (up ι2 102 0 x2 0) 103 0 x2 (24 + ι2 103 0 (x2 + ι2 96 0 x2))) Q else (0 ≤ x2 ∧ x2 < (2001 : Int)) ∧ (if (up ι2 102 0 x2 0) 102 0 x2 = (2 : Int) then (0 ≤ x2 ∧ x2 < (2001 : Int)) ∧ bW sc 248 219 [br 13 0, bi x1, bi x2, bi (ι2 96 0 x2), bi (ι2 98 0 x2), bi (24 + ι2 103 0 (x2 + ι2 96 0 x2)), bi (24 + ι2 103 0 (x2 + ι2 98 0 x2)), bi (9 + ι2 103 0 (x2 + 1))] [] (up (up ι2 102 0 x2 0) 103 0 x2 (24 + ι2 103 0 (x2 + ι2 98 0 x2))) Q else (0 ≤ x2 ∧ x2 < (2001 : Int)) ∧ bW sc 248 219 [br 13 0, bi x1, bi x2, bi (ι2 96 0 x2), bi (ι2 98 0 x2), bi (24 + ι2 103 0 (x2 + ι2 96 0 x2)), bi (24 + ι2 103 0 (x2 + ι2 98 0 x2)), bi (9 + ι2 103 0 (x2 + 1))] [] (up (up ι2 102 0 x2 0) 103 0 x2 (9 + ι2 103 0 (x2 + 1))) Q)) else (0 ≤ x2 ∧ x2 < (2001 : Int)) ∧ (0 ≤ x2 ∧ x2 < (2001 : Int)) ∧ (if (up ι2 102 0 x2 2) 102 0 x2 = (1 : Int) then (0 ≤ x2 ∧ x2 < (2001 : Int)) ∧ bW sc 248 219 [br 13 0, bi x1, bi x2, bi (ι2 96 0 x2), bi (ι2 98 0 x2), bi (24 + ι2 103 0 (x2 + ι2 96 0 x2)), bi (24 + ι2 103 0 (x2 + ι2 98 0 x2)), bi (9 + ι2 103 0 (x2 + 1))] [] (up (up ι2 102 0 x2 2) 103 0 x2 (24 + ι2 103 0 (x2 + ι2 96 0 x2))) Q else (0 ≤ x2 ∧ x2 < (2001 : Int)) ∧ (if (up ι2 102 0 x2 2) 102 0 x2 = (2 : Int) then (0 ≤ x2 ∧ x2 < (2001 : Int)) ∧ bW sc 248 219 [br 13 0, bi x1, bi x2, bi (ι2 96 0 x2), bi (ι2 98 0 x2), bi (24 + ι2 103 0 (x2 + ι2 96 0 x2)), bi (24 + ι2 103 0 (x2 + ι2 98 0 x2)), bi (9 + ι2 103 0 (x2 + 1))] [] (up (up ι2 102 0 x2 2) 103 0 x2 (24 + ι2 103 0 (x2 + ι2 98 0 x2))) Q else (0 ≤ x2 ∧ x2 < (2001 : Int)) ∧ bW sc 248 219 [br 13 0, bi x1, bi x2, bi (ι2 96 0 x2), bi (ι2 98 0 x2), bi (24 + ι2 103 0 (x2 + ι2 96 0 x2)), bi (24 + ι2 103 0 (x2 + ι2 98 0 x2)), bi (9 + ι2 103 0 (x2 + 1))] [] (up (up ι2 102 0 x2 2) 103 0 x2 (9 + ι2 103 0 (x2 + 1))) Q))) else (if 9 + ι2 103 0 (x2 + 1) < 24 + ι2 103 0 (x2 + ι2 96 0 x2) then (if 9 + ι2 103 0 (x2 + 1) < 24 + ι2 103 0 (x2 + ι2 98 0 x2) then (0 ≤ x2 ∧ x2 < (2001 : Int)) ∧ (0 ≤ x2 ∧ x2 < (2001 : Int)) ∧ (if (up ι2 102 0 x2 0) 102 0 x2 = (1 : Int) then (0 ≤ x2 ∧ x2 < (2001 : Int)) ∧ bW sc 248 219 [br 13 0, bi x1, bi x2, bi (ι2 96 0 x2), bi (ι2 98 0 x2), bi (24 + ι2 103 0 (x2 + ι2 96 0 x2)), bi (24 + ι2 103 0 (x2 + ι2 98 0 x2)), bi (9 + ι2 103 0 (x2 + 1))] [] (up (up ι2 102 0 x2 0) 103 0 x2 (24 + ι2 103 0 (x2 + ι2 96 0 x2))) Q else (0 ≤ x2 ∧ x2 < (2001 : Int)) ∧ (if (up ι2 102 0 x2 0) 102 0 x2 = (2 : Int) then (0 ≤ x2 ∧ x2 < (2001 : Int)) ∧ bW sc 248 219 [br 13 0, bi x1, bi x2, bi (ι2 96 0 x2), bi (ι2 98 0 x2), bi (24 + ι2 103 0 (x2 + ι2 96 0 x2)), bi (24 + ι2 103 0 (x2 + ι2 98 0 x2)), bi (9 + ι2 103 0 (x2 + 1))] [] (up (up ι2 102 0 x2 0) 103 0 x2 (24 + ι2 103 0 (x2 + ι2 98 0 x2))) Q else (0 ≤ x2 ∧ x2 < (2001 : Int)) ∧ bW sc 248 219 [br 13 0, bi x1, bi x2, bi (ι2 96 0 x2), bi (ι2 98 0 x2), bi (24 + ι2 103 0 (x2 + ι2 96 0 x2)), bi (24 + ι2 103 0 (x2 + ι2 98 0 x2)), bi (9 + ι2 103 0 (x2 + 1))] [] (up (up ι2 102 0 x2 0) 103 0 x2 (9 + ι2 103 0 (x2 + 1))) Q)) else (0 ≤ x2 ∧ x2 < (2001 : Int)) ∧ (0 ≤ x2 ∧ x2 < (2001 : Int)) ∧ (if (up ι2 102 0 x2 2) 102 0 x2 = (1 : Int) then (0 ≤ x2 ∧ x2 < (2001 : Int)) ∧ bW sc 248 219 [br 13 0, bi x1, bi x2, bi (ι2 96 0 x2), bi (ι2 98 0 x2), bi (24 + ι2 103 0 (x2 + ι2 96 0 x2)), bi (24 + ι2 103 0 (x2 + ι2 98 0 x2)), bi (9 + ι2 103 0 (x2 + 1))] [] (up (up ι2 102 0 x2 2) 103 0 x2 (24 + ι2 103 0 (x2 + ι2 96 0 x2))) Q else (0 ≤ x2 ∧ x2 < (2001 : Int)) ∧ (if (up ι2 102 0 x2 2) 102 0 x2 = (2 : Int) then (0 ≤ x2 ∧ x2 < (2001 : Int)) ∧ bW sc 248 219 [br 13 0, bi x1, bi x2, bi (ι2 96 0 x2), bi (ι2 98 0 x2), bi (24 + ι2 103 0 (x2 + ι2 96 0 x2)), bi (24 + ι2 103 0 (x2 + ι2 98 0 x2)), bi (9 + ι2 103 0 (x2 + 1))] [] (up (up ι2 102 0 x2 2) 103 0 x2 (24 + ι2 103 0 (x2 + ι2 98 0 x2))) Q else (0 ≤ x2 ∧ x2 < (2001 : Int)) ∧ bW sc 248 219 [br 13 0, bi x1, bi x2, bi (ι2 96 0 x2), bi (ι2 98 0 x2), bi (24 + ι2 103 0 (x2 + ι2 96 0 x2)), bi (24 + ι2 103 0 (x2 + ι2 98 0 x2)), bi (9 + ι2 103 0 (x2 + 1))] [] (up (up ι2 102 0 x2 2) 103 0 x2 (9 + ι2 103 0 (x2 + 1))) Q))) else (0 ≤ x2 ∧ x2 < (2001 : Int)) ∧ (0 ≤ x2 ∧ x2 < (2001 : Int)) ∧ (if (up ι2 102 0 x2 1) 102 0 x2 = (1 : Int) then (0 ≤ x2 ∧ x2 < (2001 : Int)) ∧ bW sc 248 219 [br 13 0, bi x1, bi x2, bi (ι2 96 0 x2), bi (ι2 98 0 x2), bi (24 + ι2 103 0 (x2 + ι2 96 0 x2)), bi (24 + ι2 103 0 (x2 + ι2 98 0 x2)), bi (9 + ι2 103 0 (x2 + 1))] [] (up (up ι2 102 0 x2 1) 103 0 x2 (24 + ι2 103 0 (x2 + ι2 96 0 x2))) Q else (0 ≤ x2 ∧ x2 < (2001 : Int)) ∧ (if (up ι2 102 0 x2 1) 102 0 x2 = (2 : Int) then (0 ≤ x2 ∧ x2 < (2001 : Int)) ∧ bW sc 248 219 [br 13 0, bi x1, bi x2, bi (ι2 96 0 x2), bi (ι2 98 0 x2), bi (24 + ι2 103 0 (x2 + ι2 96 0 x2)), bi (24 + ι2 103 0 (x2 + ι2 98 0 x2)), bi (9 + ι2 103 0 (x2 + 1))] [] (up (up ι2 102 0 x2 1) 103 0 x2 (24 + ι2 103 0 (x2 + ι2 98 0 x2))) Q else (0 ≤ x2 ∧ x2 < (2001 : Int)) ∧ bW sc 248 219 [br 13 0, bi x1, bi x2, bi (ι2 96 0 x2), bi (ι2 98 0 x2), bi (24 + ι2 103 0 (x2 + ι2 96 0 x2)), bi (24 + ι2 103 0 (x2 + ι2 98 0 x2)), bi (9 + ι2 103 0 (x2 + 1))] [] (up (up ι2 102 0 x2 1) 103 0 x2 (9 + ι2 103 0 (x2 + 1))) Q)))))))
theorem m_fw1 {Q : bm_O → bm_S → Prop} {p a b : Int} {v5 v6 v7 : bm_V} (hp : 0 ≤ p ∧ p < 2000) (ha : ι 96 0 p = a) (hb : ι 98 0 p = b) (h : ∀ v3 v4 v5 v6 v7 : bm_V, bW sc 248 219 [br 13 0, bi 1, bi p, v3, v4, v5, v6, v7] [] (up ι 102 0 p (w1 a b)) Q) : fwB sc Q 1 p v5 v6 v7 ι := by
  unfold fwB
  rw [ha, hb]
  unfold w1 at h
  refine ⟨by omega, by omega, bif_t rfl (bif_i (fun z => bif_i (fun z1 => ⟨by omega, ?_⟩) (fun z1 => bif_i (fun z2 => ⟨by omega, ?_⟩) (fun z2 => ⟨by omega, ?_⟩))) (fun z => bif_i (fun z2 => ⟨by omega, ?_⟩) (fun z2 => ⟨by omega, ?_⟩)))⟩
  · rw [if_pos ⟨z, z1⟩] at h; exact h _ _ _ _ _
  · rw [if_neg (by omega), if_pos z2] at h; exact h _ _ _ _ _
  · rw [if_neg (by omega), if_neg z2] at h; exact h _ _ _ _ _
  · rw [if_neg (by omega), if_pos z2] at h; exact h _ _ _ _ _
  · rw [if_neg (by omega), if_neg z2] at h; exact h _ _ _ _ _
theorem m_fw2 {Q : bm_O → bm_S → Prop} {lv p a b : Int} {C : Int → Int} {v5 v6 v7 : bm_V} (hlv : lv ≠ 1) (hp : 0 ≤ p ∧ p < 2000) (ha : ι 96 0 p = a) (hb : ι 98 0 p = b) (ha0 : a = 0 ∨ 4 ≤ a ∧ p + a ≤ 2000) (hb0 : b = 0 ∨ 4 ≤ b ∧ p + b ≤ 2000) (h1 : ι 103 0 (p + 1) = C (p + 1)) (h1r : 0 ≤ C (p + 1) ∧ C (p + 1) ≤ 18000) (hca : 0 < a → ι 103 0 (p + a) = C (p + a) ∧ 0 ≤ C (p + a) ∧ C (p + a) ≤ 18000) (hcb : 0 < b → ι 103 0 (p + b) = C (p + b) ∧ 0 ≤ C (p + b) ∧ C (p + b) ≤ 18000) (h : ∀ v3 v4 v5 v6 v7 : bm_V, bW sc 248 219 [br 13 0, bi lv, bi p, v3, v4, v5, v6, v7] [] (up (up ι 102 0 p (w2 a b C p)) 103 0 p (c2 a b C p)) Q) : fwB sc Q lv p v5 v6 v7 ι := by
  unfold fwB
  rw [ha, hb, h1]
  simp only [up_s]
  by_cases za : 0 < a
  · obtain ⟨a1, a2, a3⟩ := hca za
    by_cases zb : 0 < b
    · obtain ⟨b1, b2, b3⟩ := hcb zb
      rw [a1, b1]
      by_cases z1 : 24 + C (p + b) < 24 + C (p + a)
      · by_cases z2 : 9 + C (p + 1) < 24 + C (p + b)
        · have e : w2 a b C p = 0 := by unfold w2 x2; rw [if_pos za, if_pos zb, if_neg (by omega), if_neg (by omega)]
          have e2 : c2 a b C p = 9 + C (p + 1) := by unfold c2; rw [e, if_neg (by omega), if_neg (by omega)]
          rw [e, e2] at h
          refine ⟨by omega, by omega, bif_f hlv (bif_f (by omega) ⟨by omega, by omega, by omega, bif_f (by omega) ⟨by omega, by omega, by omega, by omega, by omega, by omega, bif_t z1 (bif_t z2 ⟨by omega, by omega, bif_f (by omega) ⟨by omega, bif_f (by omega) ⟨by omega, h _ _ _ _ _⟩⟩⟩)⟩⟩)⟩
        · have e : w2 a b C p = 2 := by unfold w2 x2; rw [if_pos za, if_pos zb, if_neg (by omega), if_pos (by omega)]
          have e2 : c2 a b C p = 24 + C (p + b) := by unfold c2 x2; rw [e, if_neg (by omega), if_pos rfl, if_pos zb]
          rw [e, e2] at h
          refine ⟨by omega, by omega, bif_f hlv (bif_f (by omega) ⟨by omega, by omega, by omega, bif_f (by omega) ⟨by omega, by omega, by omega, by omega, by omega, by omega, bif_t z1 (bif_f z2 ⟨by omega, by omega, bif_f (by omega) ⟨by omega, by omega, h _ _ _ _ _⟩⟩)⟩⟩)⟩
      · by_cases z2 : 9 + C (p + 1) < 24 + C (p + a)
        · have e : w2 a b C p = 0 := by unfold w2 x2; rw [if_pos za, if_pos zb, if_neg (by omega), if_neg (by omega)]
          have e2 : c2 a b C p = 9 + C (p + 1) := by unfold c2; rw [e, if_neg (by omega), if_neg (by omega)]
          rw [e, e2] at h
          refine ⟨by omega, by omega, bif_f hlv (bif_f (by omega) ⟨by omega, by omega, by omega, bif_f (by omega) ⟨by omega, by omega, by omega, by omega, by omega, by omega, bif_f z1 (bif_t z2 (bif_t (by omega) ⟨by omega, by omega, bif_f (by omega) ⟨by omega, bif_f (by omega) ⟨by omega, h _ _ _ _ _⟩⟩⟩))⟩⟩)⟩
        · have e : w2 a b C p = 1 := by unfold w2 x2; rw [if_pos za, if_pos zb, if_pos (by omega)]
          have e2 : c2 a b C p = 24 + C (p + a) := by unfold c2 x2; rw [e, if_pos rfl, if_pos za]
          rw [e, e2] at h
          refine ⟨by omega, by omega, bif_f hlv (bif_f (by omega) ⟨by omega, by omega, by omega, bif_f (by omega) ⟨by omega, by omega, by omega, by omega, by omega, by omega, bif_f z1 (bif_f z2 ⟨by omega, by omega, by omega, h _ _ _ _ _⟩)⟩⟩)⟩
    · rw [a1]
      by_cases z2 : 9 + C (p + 1) < 24 + C (p + a)
      · have e : w2 a b C p = 0 := by unfold w2 x2; rw [if_pos za, if_neg zb, if_neg (by omega), if_neg (by omega)]
        have e2 : c2 a b C p = 9 + C (p + 1) := by unfold c2; rw [e, if_neg (by omega), if_neg (by omega)]
        rw [e, e2] at h
        refine ⟨by omega, by omega, bif_f hlv (bif_f (by omega) ⟨by omega, by omega, by omega, bif_t (by omega) ⟨by omega, by omega, by omega, bif_f (by omega) (bif_t z2 (bif_t (by omega) ⟨by omega, by omega, bif_f (by omega) ⟨by omega, bif_f (by omega) ⟨by omega, h _ _ _ _ _⟩⟩⟩))⟩⟩)⟩
      · have e : w2 a b C p = 1 := by unfold w2 x2; rw [if_pos za, if_neg zb, if_pos (by omega)]
        have e2 : c2 a b C p = 24 + C (p + a) := by unfold c2 x2; rw [e, if_pos rfl, if_pos za]
        rw [e, e2] at h
        refine ⟨by omega, by omega, bif_f hlv (bif_f (by omega) ⟨by omega, by omega, by omega, bif_t (by omega) ⟨by omega, by omega, by omega, bif_f (by omega) (bif_f z2 ⟨by omega, by omega, by omega, h _ _ _ _ _⟩)⟩⟩)⟩
  · by_cases zb : 0 < b
    · obtain ⟨b1, b2, b3⟩ := hcb zb
      rw [b1]
      by_cases z2 : 9 + C (p + 1) < 24 + C (p + b)
      · have e : w2 a b C p = 0 := by unfold w2 x2; rw [if_neg za, if_pos zb, if_neg (by omega), if_neg (by omega)]
        have e2 : c2 a b C p = 9 + C (p + 1) := by unfold c2; rw [e, if_neg (by omega), if_neg (by omega)]
        rw [e, e2] at h
        refine ⟨by omega, by omega, bif_f hlv (bif_t (by omega) (bif_f (by omega) ⟨by omega, by omega, by omega, by omega, by omega, by omega, bif_t (by omega) (bif_t z2 ⟨by omega, by omega, bif_f (by omega) ⟨by omega, bif_f (by omega) ⟨by omega, h _ _ _ _ _⟩⟩⟩)⟩))⟩
      · have e : w2 a b C p = 2 := by unfold w2 x2; rw [if_neg za, if_pos zb, if_neg (by omega), if_pos (by omega)]
        have e2 : c2 a b C p = 24 + C (p + b) := by unfold c2 x2; rw [e, if_neg (by omega), if_pos rfl, if_pos zb]
        rw [e, e2] at h
        refine ⟨by omega, by omega, bif_f hlv (bif_t (by omega) (bif_f (by omega) ⟨by omega, by omega, by omega, by omega, by omega, by omega, bif_t (by omega) (bif_f z2 ⟨by omega, by omega, bif_f (by omega) ⟨by omega, by omega, h _ _ _ _ _⟩⟩)⟩))⟩
    · have e : w2 a b C p = 0 := by unfold w2 x2; rw [if_neg za, if_neg zb, if_neg (by omega), if_neg (by omega)]
      have e2 : c2 a b C p = 9 + C (p + 1) := by unfold c2; rw [e, if_neg (by omega), if_neg (by omega)]
      rw [e, e2] at h
      refine ⟨by omega, by omega, bif_f hlv (bif_t (by omega) (bif_t (by omega) ⟨by omega, by omega, by omega, bif_t (by omega) (bif_t (by omega) ⟨by omega, by omega, bif_f (by omega) ⟨by omega, bif_f (by omega) ⟨by omega, h _ _ _ _ _⟩⟩⟩)⟩))⟩
def cf (T : Int → Int) (N p : Int) : Int := cpM T N p.toNat
def df (T : Int → Int) (N p : Int) : Int := cpD T N p.toNat
theorem AB_of : AB (cf T N) (wdM T N g c) N := fun p h0 h1 => by
  have hz : ∀ k, 0 ≤ wz T N g c p k := fun k => by have := wz_rg (T := T) (N := N) (g := g) (c := c) (p := p) (k := k); omega
  refine ⟨?_, ?_⟩
  · have := bc_rg T p (min 200 (N - p)).toNat p.toNat
    have e : cf T N p = bcM T p (min 200 (N - p)).toNat p.toNat := by unfold cf cpM; rw [show ((p.toNat : Nat) : Int) = p by omega]
    rw [e]; omega
  · have q := wM_ch hz 5376
    unfold wdM
    by_cases z : wM (wz T N g c p) 5376 = 0
    · exact Or.inl z
    · have q1 := q.2.2.2 (by omega)
      have q2 := wz_N (T := T) (N := N) (g := g) (c := c) (p := p) (k := wK (wz T N g c p) 5376)
      omega
/-- what the other knows of the place q -/
def WQ (ι : bm_S) (T : Int → Int) (N : Int) (g c : Int → Int) (lv q : Int) : Prop := ι 96 0 q = cf T N q ∧ (0 < cf T N q → ι 97 0 q = df T N q) ∧ ι 98 0 q = wdM T N g c q ∧ (0 < wdM T N g c q → ι 99 0 q = 4 + wdK T N g c q / 24 / 32 ∧ ι 100 0 q = wdK T N g c q / 24 % 32 ∧ ι 101 0 q = wdK T N g c q % 24) ∧ ι 102 0 q = wy lv (cf T N) (wdM T N g c) N q
abbrev gWy (t : Nat) (_ j : Int) : Prop := 96 ≤ t ∧ t ≤ 103 ∨ t = 70 ∨ t = 13 ∧ j = 10
theorem m_ways17 {lv : Int} (hlv : lv = 1 ∨ lv = 2) (hN : N ≤ 2000) (hG : GV g c) : ∀ (m d : Nat) (v3 v4 v5 v6 v7 : bm_V) (ι : bm_S), (m : Int) + d = N → TMo ι T N → GMo ι g c → (∀ q, (m : Int) ≤ q → q < N → WQ ι T N g c lv q) → (lv = 2 → ∀ q, (m : Int) ≤ q → q ≤ N → ι 103 0 q = cC (cf T N) (wdM T N g c) N d q) → (∀ ι' : bm_S, (∀ q, 0 ≤ q → q < N → WQ ι' T N g c lv q) → Fr gWy ι ι' → K ι') → bW sc 248 17 [br 13 0, bi lv, bi ((m : Int) - 1), v3, v4, v5, v6, v7] [] ι (bk0 K H)
  | 0, d, v3, v4, v5, v6, v7, ι, hd, hT, hG1, hW, hC, h => e_M_findWays_17 (bif_t (by omega) (h ι (fun q a b => hW q (by omega) b) (Fr.refl _ _)))
  | m + 1, d, v3, v4, v5, v6, v7, ι, hd, hT, hG1, hW, hC, h => by
    have hab : AB (cf T N) (wdM T N g c) N := AB_of
    have em : ((m + 1 : Nat) : Int) - 1 = m := by omega
    rw [em]
    have hm := hab m (by omega) (by omega)
    have ecf : cf T N m = cpM T N m := by unfold cf; rw [show ((m : Int)).toNat = m by omega]
    have edf : df T N m = cpD T N m := by unfold df; rw [show ((m : Int)).toNat = m by omega]
    refine e_M_findWays_17 (bif_f (by omega) (m_findCopy hN (by omega) hT (fun ι1 a1 a2 F1 => ?_)))
    have T1 : TMo ι1 T N := ⟨by rw [F1 13 0 59 (by omega)]; exact hT.1, fun k x y => by rw [F1 74 0 k (by omega)]; exact hT.2 k x y⟩
    have G1 : GMo ι1 g c := ⟨fun k x y => by rw [F1 68 0 k (by omega)]; exact hG1.1 k x y, fun k x y => by rw [F1 69 0 k (by omega)]; exact hG1.2 k x y⟩
    refine m_findWord (T := T) (N := N) ⟨by omega, by omega⟩ hN hG T1 G1 (fun ι2 b1 b2 F2 => ?_)
    have FF : Fr gWy ι ι2 := (F1.wide fun t i j q => by omega).trans (F2.wide fun t i j q => by omega)
    have T2 : TMo ι2 T N := ⟨by rw [F2 13 0 59 (by omega)]; exact T1.1, fun k x y => by rw [F2 74 0 k (by omega)]; exact T1.2 k x y⟩
    have G2 : GMo ι2 g c := ⟨fun k x y => by rw [F2 68 0 k (by omega)]; exact G1.1 k x y, fun k x y => by rw [F2 69 0 k (by omega)]; exact G1.2 k x y⟩
    have x96 : ι2 96 0 m = cf T N m := by rw [F2 96 0 m (by omega), ecf]; exact a1
    have x97 : 0 < cf T N m → ι2 97 0 m = df T N m := fun z => by rw [F2 97 0 m (by omega), edf]; exact a2 (by rw [← ecf]; exact z)
    have W2 : ∀ q, ((m : Int) + 1) ≤ q → q < N → WQ ι2 T N g c lv q := fun q x y => by
      have := hW q (by omega) y
      unfold WQ
      rw [F2 96 0 q (by omega), F2 97 0 q (by omega), F2 98 0 q (by omega), F2 99 0 q (by omega), F2 100 0 q (by omega), F2 101 0 q (by omega), F2 102 0 q (by omega), F1 96 0 q (by omega), F1 97 0 q (by omega), F1 98 0 q (by omega), F1 99 0 q (by omega), F1 100 0 q (by omega), F1 101 0 q (by omega), F1 102 0 q (by omega)]
      exact this
    have C2 : lv = 2 → ∀ q, ((m : Int) + 1) ≤ q → q ≤ N → ι2 103 0 q = cC (cf T N) (wdM T N g c) N d q := fun e q x y => by
      rw [F2 103 0 q (by omega), F1 103 0 q (by omega)]; exact hC e q (by omega) y
    have next : ∀ (ι3 : bm_S) (v3 v4 v5 v6 v7 : bm_V), (∀ q, (m : Int) ≤ q → q < N → WQ ι3 T N g c lv q) → (lv = 2 → ∀ q, (m : Int) ≤ q → q ≤ N → ι3 103 0 q = cC (cf T N) (wdM T N g c) N (d + 1) q) → Fr (fun t i j => (t = 102 ∨ t = 103) ∧ j = m) ι2 ι3 → bW sc 248 219 [br 13 0, bi lv, bi m, v3, v4, v5, v6, v7] [] ι3 (bk0 K H) := fun ι3 v3 v4 v5 v6 v7 W3 C3 F3 => by
      refine e_M_findWays_219 ⟨by omega, ?_⟩
      rw [show (m : Int) + (-1) = (m : Int) - 1 by omega]
      exact m_ways17 hlv hN hG m (d + 1) v3 v4 v5 v6 v7 ι3 (by omega) ⟨by rw [F3 13 0 59 (by omega)]; exact T2.1, fun k x y => by rw [F3 74 0 k (by omega)]; exact T2.2 k x y⟩ ⟨fun k x y => by rw [F3 68 0 k (by omega)]; exact G2.1 k x y, fun k x y => by rw [F3 69 0 k (by omega)]; exact G2.2 k x y⟩ W3 C3 (fun ι4 W4 F4 => h ι4 W4 ((FF.trans (F3.wide fun t i j q => by omega)).trans F4))
    have far : ∀ (w : Int) (ι3 : bm_S), Fr (fun t i j => (t = 102 ∨ t = 103) ∧ j = m) ι2 ι3 → ι3 102 0 m = w → w = wy lv (cf T N) (wdM T N g c) N m → ∀ q, (m : Int) ≤ q → q < N → WQ ι3 T N g c lv q := fun w ι3 F3 e1 e2 q x y => by
      by_cases z : q = m
      · rw [z]
        unfold WQ
        rw [F3 96 0 m (by omega), F3 97 0 m (by omega), F3 98 0 m (by omega), F3 99 0 m (by omega), F3 100 0 m (by omega), F3 101 0 m (by omega)]
        exact ⟨x96, x97, b1, b2, by rw [e1]; exact e2⟩
      · have := W2 q (by omega) y
        unfold WQ
        rw [F3 96 0 q (by omega), F3 97 0 q (by omega), F3 98 0 q (by omega), F3 99 0 q (by omega), F3 100 0 q (by omega), F3 101 0 q (by omega), F3 102 0 q (by omega)]
        exact this
    show fwB sc (bk0 K H) lv m v5 v6 v7 ι2
    by_cases e1 : lv = 1
    · have hw : wy lv (cf T N) (wdM T N g c) N m = w1 (cf T N m) (wdM T N g c m) := if_pos e1
      subst e1
      refine m_fw1 (by omega) x96 b1 (fun v3 v4 v5 v6 v7 => ?_)
      have F3 : Fr (fun t i j => (t = 102 ∨ t = 103) ∧ j = m) ι2 (up ι2 102 0 m (w1 (cf T N m) (wdM T N g c m))) := (Fr.refl _ _).u (by omega)
      exact next _ _ _ _ _ _ (far _ _ F3 (by simp (disch := omega) only [up_s, up_k, up_j, up_i]) hw.symm) (fun z => by omega) F3
    · have e2 : lv = 2 := by omega
      have hd1 : (N - (m : Int) - 1).toNat = d := by omega
      have hw : wy lv (cf T N) (wdM T N g c) N m = w2 (cf T N m) (wdM T N g c m) (cC (cf T N) (wdM T N g c) N d) m := by unfold wy; rw [if_neg e1, hd1]
      have rg := cC_rg hab hN d (by omega)
      have c2' := C2 e2
      refine m_fw2 (C := cC (cf T N) (wdM T N g c) N d) e1 (by omega) x96 b1 (by omega) (by omega) (c2' (m + 1) (by omega) (by omega)) (by have := rg (m + 1) (by omega) (by omega); omega) (fun z => ⟨c2' _ (by omega) (by omega), by have := rg (m + cf T N m) (by omega) (by omega); omega⟩) (fun z => ⟨c2' _ (by omega) (by omega), by have := rg (m + wdM T N g c m) (by omega) (by omega); omega⟩) (fun v3 v4 v5 v6 v7 => ?_)
      have F3 : Fr (fun t i j => (t = 102 ∨ t = 103) ∧ j = m) ι2 (up (up ι2 102 0 m (w2 (cf T N m) (wdM T N g c m) (cC (cf T N) (wdM T N g c) N d) m)) 103 0 m (c2 (cf T N m) (wdM T N g c m) (cC (cf T N) (wdM T N g c) N d) m)) := ((Fr.refl _ _).u (by omega)).u (by omega)
      refine next _ _ _ _ _ _ (far _ _ F3 (by simp (disch := omega) only [up_s, up_k, up_j, up_i]) hw.symm) (fun _ q x y => ?_) F3
      rw [up_at]
      show _ = if q = N - ((d + 1 : Nat) : Int) then c2 (cf T N q) (wdM T N g c q) (cC (cf T N) (wdM T N g c) N d) q else cC (cf T N) (wdM T N g c) N d q
      by_cases z : q = m
      · rw [if_pos z, if_pos (by omega), z]
      · rw [if_neg z, if_neg (by omega), up_k (by decide)]; exact c2' q (by omega) y
theorem m_findWays {lv : Int} (hlv : lv = 1 ∨ lv = 2) (hN : 0 ≤ N ∧ N ≤ 2000) (hG : GV g c) (hT : TMo ι T N) (hG1 : GMo ι g c) (h : ∀ ι' : bm_S, (∀ q, 0 ≤ q → q < N → WQ ι' T N g c lv q) → Fr gWy ι ι' → K ι') : bC sc 248 [br 13 0, bi lv] ι (bk0 K H) := by
  refine e_M_findWays_0 ?_
  rw [hT.1]
  have F0 : Fr gWy ι (up ι 103 0 N 0) := (Fr.refl _ _).u (by omega)
  refine ⟨by omega, by omega, ?_⟩
  have q := m_ways17 (sc := sc) (H := H) (K := K) (T := T) (N := N) (g := g) (c := c) hlv hN.2 hG N.toNat 0 bu bu bu bu bu (up ι 103 0 N 0) (by omega) ⟨by simp (disch := omega) only [up_s, up_k, up_j, up_i]; exact hT.1, fun k x y => by simp (disch := omega) only [up_s, up_k, up_j, up_i]; exact hT.2 k x y⟩ ⟨fun k x y => by simp (disch := omega) only [up_s, up_k, up_j, up_i]; exact hG1.1 k x y, fun k x y => by simp (disch := omega) only [up_s, up_k, up_j, up_i]; exact hG1.2 k x y⟩ (fun q a b => by omega) (fun _ q a b => by rw [show q = N by omega, up_s]; rfl) (fun ι' W F => h ι' W (F0.trans F))
  rw [show ((N.toNat : Nat) : Int) = N by omega] at q
  exact q
end Ways
