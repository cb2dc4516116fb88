/-! pack: how often each sign is there; sums over signs -/
section Cnt
variable {a n : Int} {w F G : Int → Int} {f : Nat → Int}
def cw (f : Nat → Int) : Nat → Int → Int
  | 0, _ => 0
  | k + 1, s => cw f k s + (if f k = s then 1 else 0)
theorem cw_s (k : Nat) (s : Int) : cw f (k + 1) s = cw f k s + (if f k = s then 1 else 0) := rfl
theorem cw_rg (s : Int) : ∀ k : Nat, 0 ≤ cw f k s ∧ cw f k s ≤ k
  | 0 => ⟨Int.le_refl 0, Int.le_refl 0⟩
  | k + 1 => by
    have := cw_rg s k
    rw [cw_s]
    split <;> omega
theorem cw_stop {s : Int} (hs : 0 ≤ s) {k : Nat} : ∀ d : Nat, (∀ i : Nat, k ≤ i → i < k + d → f i < 0) → cw f (k + d) s = cw f k s
  | 0, _ => rfl
  | d + 1, h => by
    rw [← Nat.add_assoc, cw_s, if_neg (by have := h (k + d) (by omega) (by omega); omega), cw_stop hs d (fun i x y => h i x (by omega))]
    omega
theorem cw_pos {i : Nat} : ∀ k : Nat, i < k → 0 < cw f k (f i)
  | 0, h => by omega
  | k + 1, h => by
    have := cw_rg (f := f) (f i) k
    rw [cw_s]
    by_cases z : i = k
    · rw [z, if_pos rfl]; rw [z] at this; omega
    · have := cw_pos k (show i < k by omega)
      split <;> omega
theorem smN_at (x y : Int) : ∀ (m : Nat) (lo : Int), smN (fun s => F s + (if x = s then y else 0)) m lo = smN F m lo + (if lo ≤ x ∧ x < lo + m then y else 0)
  | 0, lo => by
    show (0 : Int) = 0 + (if lo ≤ x ∧ x < lo + ((0 : Nat) : Int) then y else 0)
    rw [if_neg (by omega)]; rfl
  | m + 1, lo => by
    have ih := smN_at x y m (lo + 1)
    show (F lo + (if x = lo then y else 0)) + smN (fun s => F s + (if x = s then y else 0)) m (lo + 1) = F lo + smN F m (lo + 1) + (if lo ≤ x ∧ x < lo + ((m + 1 : Nat) : Int) then y else 0)
    rw [ih]
    by_cases z : x = lo
    · rw [if_pos z, if_neg (by omega), if_pos (by omega)]; omega
    · rw [if_neg z]
      by_cases z2 : lo + 1 ≤ x ∧ x < lo + 1 + m
      · rw [if_pos z2, if_pos (by omega)]; omega
      · rw [if_neg z2, if_neg (by omega)]; omega
theorem sm_at {x y : Int} (ha : 0 ≤ a) : sm (fun s => F s + (if x = s then y else 0)) 0 a = sm F 0 a + (if 0 ≤ x ∧ x < a then y else 0) := by
  have := smN_at (F := F) x y (a - 0).toNat 0
  unfold sm
  rw [this]
  by_cases z : 0 ≤ x ∧ x < a
  · rw [if_pos z, if_pos (by omega)]
  · rw [if_neg z, if_neg (by omega)]
theorem smN_0 : ∀ (m : Nat) (lo : Int), smN (fun _ => 0) m lo = 0
  | 0, _ => rfl
  | m + 1, lo => by show 0 + smN (fun _ => 0) m (lo + 1) = 0; rw [smN_0 m]; rfl
theorem sm_0 {lo hi : Int} : sm (fun _ => 0) lo hi = 0 := smN_0 _ _
/-- a sum over the signs that are there, in any order -/
theorem sm_PM_m {r : Int → Int} (hP : PM w a n r) (ha : 0 ≤ a) : ∀ m : Nat, (m : Int) ≤ n → ∃ G : Int → Int, (∀ p, 0 ≤ p → p < (m : Int) → G (r p) = F (r p)) ∧ (∀ s, (∀ p, 0 ≤ p → p < (m : Int) → r p ≠ s) → G s = 0) ∧ sm (fun k => F (r k)) 0 m = sm G 0 a
  | 0, _ => ⟨fun _ => 0, fun p x y => by omega, fun _ _ => rfl, by rw [sm_e (by omega), sm_0]⟩
  | m + 1, h => by
    obtain ⟨G, h1, h2, h3⟩ := sm_PM_m hP ha m (by omega)
    have rr := hP.1 m (by omega) (by omega)
    have g0 : G (r m) = 0 := h2 (r m) (fun p x y e => by have := hP.2.1 p m x (by omega) (by omega) (by omega) e; omega)
    refine ⟨fun s => G s + (if r m = s then F (r m) else 0), fun p x y => ?_, fun s hs => ?_, ?_⟩
    · show G (r p) + (if r m = r p then F (r m) else 0) = F (r p)
      by_cases z : p = (m : Int)
      · rw [z, if_pos rfl, g0]; omega
      · rw [if_neg (fun e => z (hP.2.1 p m x (by omega) (by omega) (by omega) e.symm)), h1 p x (by omega)]; omega
    · show G s + (if r m = s then F (r m) else 0) = 0
      rw [if_neg (hs m (by omega) (by omega)), h2 s (fun p x y => hs p x (by omega))]; rfl
    · rw [sm_at ha, if_pos ⟨rr.1, rr.2.1⟩, ← h3, show ((m + 1 : Nat) : Int) = (m : Int) + 1 by omega, sm_r (by omega)]
theorem sm_PM {r : Int → Int} (hP : PM w a n r) (ha : 0 ≤ a) (hn : 0 ≤ n) (hF : ∀ s, 0 ≤ s → s < a → w s ≤ 0 → F s = 0) : sm (fun k => F (r k)) 0 n = sm F 0 a := by
  obtain ⟨G, h1, h2, h3⟩ := sm_PM_m (F := F) hP ha n.toNat (by omega)
  rw [show ((n.toNat : Nat) : Int) = n by omega] at h1 h2 h3
  rw [h3]
  refine sm_c (fun s x y => ?_)
  by_cases z : 0 < w s
  · obtain ⟨p, p0, p1, p2⟩ := hP.2.2 s x y z
    rw [← p2]; exact h1 p p0 p1
  · rw [hF s x y (by omega)]
    exact h2 s (fun p p0 p1 e => by have := hP.1 p p0 p1; rw [e] at this; omega)
theorem sm_cw (ha : 0 ≤ a) (k : Nat) : sm (cw f (k + 1)) 0 a = sm (cw f k) 0 a + (if 0 ≤ f k ∧ f k < a then 1 else 0) := by
  rw [← sm_at ha]
  exact sm_c (fun s _ _ => rfl)
theorem sm_cwL (ha : 0 ≤ a) (k : Nat) : sm (fun s => cw f (k + 1) s * F s) 0 a = sm (fun s => cw f k s * F s) 0 a + (if 0 ≤ f k ∧ f k < a then F (f k) else 0) := by
  rw [← sm_at ha]
  refine sm_c (fun s _ _ => ?_)
  show cw f (k + 1) s * F s = cw f k s * F s + (if f k = s then F (f k) else 0)
  rw [cw_s, Int.add_mul]
  by_cases z : f k = s
  · rw [if_pos z, if_pos z, z, Int.one_mul]
  · rw [if_neg z, if_neg z, Int.zero_mul]
theorem sm_cw_le (ha : 0 ≤ a) : ∀ k : Nat, sm (cw f k) 0 a ≤ k
  | 0 => by rw [show sm (cw f 0) 0 a = 0 from sm_0]; omega
  | k + 1 => by
    have := sm_cw_le ha k
    rw [sm_cw ha]
    split <;> omega
theorem SB_of {B : Int} (ha : 0 ≤ a) (hn : 0 ≤ n) (hw : ∀ s, 0 ≤ s → s < a → 0 ≤ w s) (h : sm w 0 a ≤ B) : SB w a n B := fun r hr => by
  rw [sm_PM (F := w) hr ha hn (fun s x y z => by have := hw s x y; omega)]; exact h
/-- what the signs of a code cost -/
theorem cost_le {lone : Int} {L : Int → Int} {w : Int → Int} (ha : 1 ≤ a ∧ a ≤ 256) (hw : ∀ s, 0 ≤ s → s < a → 0 ≤ w s) (h : sm w 0 a ≤ 2000) (hC : CL a 15 w n lone L) : 1048576 * sm (fun s => w s * L s) 0 a ≤ 10747000 * sm w 0 a := by
  obtain ⟨hn, -, hC⟩ := hC
  have hc := cu_rg w a.toNat
  have hw0 : 0 ≤ sm w 0 a := by have := sm_ge (f := w) (b := 0) (lo := 0) (hi := a) (by omega) (fun k x y => hw k x y); omega
  rcases hC with ⟨-, h0⟩ | ⟨h2, t, hH⟩
  · rw [sm_c (g := fun _ => 0) (fun s x y => by show w s * L s = 0; rw [h0 s x y, Int.mul_zero]), sm_0]
    omega
  · have hS := SB_of (n := n) (by omega) (by omega) hw h
    cases t with
    | succ t =>
      obtain ⟨o, hO, ⟨q, q0, q1, q2⟩, -⟩ := hH
      have := TE15 h2 hS o hO q q0 q1
      omega
    | zero =>
      obtain ⟨o, hO, h1, h3⟩ := hH
      have e1 := sm_PM (F := fun s => w s * L s) hO.1 (by omega) (by omega) (fun s x y z => by show w s * L s = 0; rw [h3 s x y z, Int.mul_zero])
      have e2 := sm_PM (F := w) hO.1 (by omega) (by omega) (fun s x y z => by have := hw s x y; omega)
      have e3 : sm (fun k => w (o k) * L (o k)) 0 n = sm (fun k => (fun k => w (o k)) k * hD (fun k => w (o k)) n k) 0 n := sm_c (fun k x y => by show w (o k) * L (o k) = w (o k) * hD (fun k => w (o k)) n k; rw [(h1 k x y).1])
      have := hcost_le (hO.VR h2) (by omega)
      rw [← e1, ← e2, e3]
      exact this
theorem CL_rg {most lone : Int} {L : Int → Int} (hm : 0 ≤ most) (hC : CL a most w n lone L) : ∀ s, 0 ≤ s → s < a → 0 ≤ L s ∧ L s ≤ most ∧ (1 ≤ L s → 0 < w s) := fun s x y => by
  rcases hC.2.2 with ⟨-, h0⟩ | ⟨h2, t, hH⟩
  · have := h0 s x y; omega
  · have := HL_rg h2 t w hH s x y; omega
end Cnt
