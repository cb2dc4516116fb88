/-! the lengths of a code told at length -/
section Lens
variable {sc : bm_Sc} {β : Int → Int} {lim : Int}
/-- the next j signs from F on have the length n -/
def fi (L : Int → Int) (F n : Int) : Nat → (Int → Int)
  | 0 => L
  | j + 1 => fs (fi L F n j) (F + j) n
theorem fi_out {L : Int → Int} {F n : Int} : ∀ (j : Nat) (s : Int), ¬ (F ≤ s ∧ s < F + j) → fi L F n j s = L s
  | 0, _, _ => rfl
  | j + 1, s, h => by
    show fs (fi L F n j) (F + j) n s = _
    rw [fs_n (by omega)]
    exact fi_out j s (by omega)
theorem fi_in {L : Int → Int} {F n : Int} : ∀ (j : Nat) (s : Int), F ≤ s ∧ s < F + j → fi L F n j s = n
  | 0, _, h => by omega
  | j + 1, s, h => by
    show fs (fi L F n j) (F + j) n s = _
    by_cases q : s = F + j
    · rw [q, fs_s]
    · rw [fs_n q]; exact fi_in j s (by omega)
theorem ks_fi {L : Int → Int} {F n : Int} {a : Nat} (hF : 0 ≤ F) (hL : ∀ s : Int, F ≤ s → s < a → L s = 0) : ∀ (j : Nat), F + j ≤ a → ks (fi L F n j) a = ks L a + j * Kw n
  | 0, _ => by show ks L a = _; omega
  | j + 1, h => by
    show ks (fs (fi L F n j) (F + j) n) a = _
    rw [ks_fs _ _ _ _ (by omega), if_pos (by omega), ks_fi hF hL j (by omega), fi_out j _ (by omega), hL _ (by omega) (by omega), Kw_0]
    rw [show ((j + 1 : Nat) : Int) = (j : Int) + 1 by omega, Int.add_mul]
    omega
theorem p15 {n : Int} (h : 1 ≤ n ∧ n ≤ 15) : 1 ≤ 32768 / bm_p2 n ∧ 32768 / bm_p2 n ≤ 16384 ∧ Kw n = 2 * (32768 / bm_p2 n) := by
  rcases (show n = 1 ∨ n = 2 ∨ n = 3 ∨ n = 4 ∨ n = 5 ∨ n = 6 ∨ n = 7 ∨ n = 8 ∨ n = 9 ∨ n = 10 ∨ n = 11 ∨ n = 12 ∨ n = 13 ∨ n = 14 ∨ n = 15 by omega) with rfl | rfl | rfl | rfl | rfl | rfl | rfl | rfl | rfl | rfl | rfl | rfl | rfl | rfl | rfl <;> decide
/-- what many signs of length n take -/
def tk (n many : Int) : Int := if 0 < n then many * (32768 / bm_p2 n) else 0
abbrev fL (t : Nat) (i j : Int) : Prop := fR t i j ∨ t = 23 ∨ t = 4 ∧ (j = 5 ∨ j = 6 ∨ j = 7)
abbrev gL (st a : Int) (t : Nat) (i j : Int) : Prop := gR t i j ∨ t = 71 ∧ st ≤ j ∧ j < st + a
theorem s_come_err {K : bm_S → Prop} {H : Nat × Int → bm_S → Prop} {ι : bm_S} {n many a : Int} (hr : ι 0 0 3 ≠ 0) (ha : bm_rg (a - ι 4 0 5)) (h : K ι) : bC sc 34 [br 4 0, bi n, bi many, bi a] ι (bk0 K H) := by
  refine e_CR_come_0 ⟨ha, bif_i (fun _ => s_broken (fun e => absurd e hr) (fun _ => s_fine (fun e => absurd e hr) (fun _ => bif_t rfl h))) (fun _ => bif_i (fun _ => s_fine (fun e => absurd e hr) (fun _ => bif_t rfl h)) (fun _ => s_broken (fun e => absurd e hr) (fun _ => s_fine (fun e => absurd e hr) (fun _ => bif_t rfl h))))⟩
theorem s_come42 {K : bm_S → Prop} {H : Nat × Int → bm_S → Prop} {n many F S : Int} {L : Int → Int} {a : Nat} {v3 : bm_V} (hn : 0 ≤ n ∧ n ≤ 15) (hm : 0 ≤ many ∧ F + many ≤ a) (hF : 0 ≤ F) (ha : (a : Int) ≤ 704) (hS : 0 ≤ S ∧ S ≤ 32768) : ∀ (m j : Nat) (ι : bm_S), (j : Int) + m = many → ι 4 0 5 = F + j → ι 4 0 6 = S → ι 0 0 3 = 0 → (∀ s : Nat, s < a → ι 23 0 s = fi L F n j s) →
    (∀ ι' : bm_S, ι' 4 0 5 = F + many → ι' 4 0 6 = S + tk n many → ι' 0 0 3 = (if S + tk n many ≤ 32768 then 0 else 14) → (∀ s : Nat, s < a → ι' 23 0 s = fi L F n many.toNat s) → Fr (fun t i j => t = 0 ∧ j = 3 ∨ t = 23 ∨ t = 4 ∧ (j = 5 ∨ j = 6)) ι ι' → K ι') → bW sc 34 42 [br 4 0, bi n, bi many, v3, bi (j : Int)] [] ι (bk0 K H)
  | 0, j, ι, hj, h5, h6, h3, h23, h => by
    have e : j = many.toNat := by omega
    refine e_CR_come_42 (bif_t (by omega) (bif_i (fun q => bif_t (by omega) ?_) (fun q => ?_)))
    · have ht : tk n many = 0 := by unfold tk; rw [if_neg (by omega)]
      refine h ι (by omega) (by omega) (by rw [if_pos (by omega)]; exact h3) (fun s hs => by rw [h23 s hs, e]) (Fr.refl _ _)
    · have hp := p15 (n := n) (by omega)
      have ht : tk n many = many * (32768 / bm_p2 n) := by unfold tk; rw [if_pos (by omega)]
      have hb : 0 ≤ many * (32768 / bm_p2 n) ∧ many * (32768 / bm_p2 n) ≤ 704 * 16384 := by
        refine ⟨Int.mul_nonneg (by omega) (by omega), ?_⟩
        have x1 : many * (32768 / bm_p2 n) ≤ many * 16384 := Int.mul_le_mul_of_nonneg_left (by omega) (by omega)
        omega
      rw [h6]
      rw [ht] at h
      refine ⟨by omega, by omega, by omega, bif_i (fun q2 => ?_) (fun q2 => s_broken (fun _ => ?_) (fun e => absurd (show _ = (0 : Int) by simp (disch := omega) only [up_s, up_k, up_j, up_i]; exact h3) e))⟩
      · exact h _ (by simp (disch := omega) only [up_s, up_k, up_j, up_i]; omega) (by simp (disch := omega) only [up_s, up_k, up_j, up_i]) (by rw [if_pos q2]; simp (disch := omega) only [up_s, up_k, up_j, up_i]; exact h3) (fun s hs => by simp (disch := omega) only [up_s, up_k, up_j, up_i]; rw [h23 s hs, e]) ((Fr.refl _ _).u (by omega))
      · exact h _ (by simp (disch := omega) only [up_s, up_k, up_j, up_i]; omega) (by simp (disch := omega) only [up_s, up_k, up_j, up_i]) (by rw [if_neg q2]; simp (disch := omega) only [up_s, up_k, up_j, up_i]) (fun s hs => by simp (disch := omega) only [up_s, up_k, up_j, up_i]; rw [h23 s hs, e]) (((Fr.refl _ _).u (by omega)).u (by omega))
  | m + 1, j, ι, hj, h5, h6, h3, h23, h => by
    refine e_CR_come_42 (bif_f (by omega) ?_)
    rw [h5]
    refine ⟨by omega, by omega, by omega, ?_⟩
    have := s_come42 (K := K) (H := H) (v3 := v3) (L := L) hn hm hF ha hS m (j + 1) (up (up ι 4 0 5 (F + j + 1)) 23 0 (F + j) n) (by omega) (by simp (disch := omega) only [up_s, up_k, up_j, up_i]; omega) (by simp (disch := omega) only [up_s, up_k, up_j, up_i]; exact h6) (by simp (disch := omega) only [up_s, up_k, up_j, up_i]; exact h3) (fun s hs => by
      rw [up_at, up_k (by decide), h23 s hs]; rfl) (fun ι' g1 g2 g3 g4 g5 => h ι' g1 g2 g3 g4 ((((Fr.refl _ _).u (by omega)).u (by omega)).trans g5))
    rw [show ((j + 1 : Nat) : Int) = (j : Int) + 1 by omega] at this
    exact this
theorem m_len189 {K : bm_S → Prop} {H : Nat × Int → bm_S → Prop} {st n many F S x5 x6 x7 : Int} {L : Int → Int} {a : Nat} {v8 : bm_V} (hn : 0 ≤ n ∧ n ≤ 15) (hm : 0 ≤ many ∧ F + many ≤ a) (hF : 0 ≤ F) (ha : (a : Int) ≤ 704) (hst : 0 ≤ st ∧ st + a ≤ 18000) (hS : 0 ≤ S ∧ S ≤ 32768) : ∀ (m j : Nat) (ι : bm_S), (j : Int) + m = many → (∀ s : Nat, s < a → ι 71 0 (st + s) = fi L F n j s) →
    (S + tk n many ≤ 32768 → ∀ (ι' : bm_S), (∀ s : Nat, s < a → ι' 71 0 (st + s) = fi L F n many.toNat s) → Fr (fun t i j => t = 71 ∧ st ≤ j ∧ j < st + a) ι ι' → ∀ v8 v9 v10 v11, bW sc 184 15 [br 13 0, bi st, bi (a : Int), bi (F + many), bi (S + tk n many), bi x5, bi x6, bi x7, v8, v9, v10, v11] [] ι' (bk0 K H)) →
    (¬ S + tk n many ≤ 32768 → ∀ (ι' : bm_S), ι' 12 0 6 = 14 → Fr (fun t i j => t = 71 ∧ st ≤ j ∧ j < st + a ∨ t = 12 ∧ j = 6) ι ι' → H (12, 0) ι') →
    bW sc 184 189 [br 13 0, bi st, bi (a : Int), bi (F + j), bi (S + tk n j), bi x5, bi x6, bi x7, v8, bi many, bi n, bi (j : Int)] [] ι (bk0 K H)
  | 0, j, ι, hj, h71, h, hh => by
    have e : (j : Int) = many := by omega
    rw [e]
    refine e_M_readLengths_189 (bif_t (by omega) (bif_i (fun q => ?_) (fun q => m_fail ?_)))
    · exact h q ι (fun s hs => by rw [h71 s hs, show j = many.toNat by omega]) (Fr.refl _ _) _ _ _ _
    · exact hh q _ (by simp (disch := omega) only [up_s, up_k, up_j, up_i]) ((Fr.refl _ _).u (by omega))
  | m + 1, j, ι, hj, h71, h, hh => by
    have hp : n = 0 ∨ (1 ≤ 32768 / bm_p2 n ∧ 32768 / bm_p2 n ≤ 16384) := by
      by_cases q : n = 0
      · exact Or.inl q
      · have := p15 (n := n) (by omega); exact Or.inr ⟨this.1, this.2.1⟩
    have htk : 0 ≤ tk n j ∧ tk n j ≤ 704 * 16384 := by
      unfold tk
      split
      · rcases hp with hp | hp
        · omega
        · refine ⟨Int.mul_nonneg (by omega) (by omega), ?_⟩
          have x1 : (j : Int) * (32768 / bm_p2 n) ≤ (j : Int) * 16384 := Int.mul_le_mul_of_nonneg_left (by omega) (by omega)
          omega
      · omega
    have ih := m_len189 (K := K) (H := H) (v8 := v8) (x5 := x5) (x6 := x6) (x7 := x7) (L := L) hn hm hF ha hst hS m (j + 1) (up ι 71 0 (st + (F + j)) n) (by omega) (fun s hs => by
      rw [up_at, h71 s hs]
      show _ = fs (fi L F n j) (F + j) n s
      unfold fs
      by_cases q : (s : Int) = F + j
      · rw [if_pos (by omega), if_pos q]
      · rw [if_neg (by omega), if_neg q]) (fun e ι' g1 g2 => h e ι' g1 (((Fr.refl _ _).u (by omega)).trans g2)) (fun e ι' g1 g2 => hh e ι' g1 (((Fr.refl _ _).u (by omega)).trans g2))
    rw [show F + ((j + 1 : Nat) : Int) = F + j + 1 by omega] at ih
    refine e_M_readLengths_189 (bif_f (by omega) ⟨by omega, by omega, by omega, bif_i (fun q => ⟨by omega, by omega, ?_⟩) (fun q => ?_)⟩)
    · rw [show S + tk n ((j + 1 : Nat) : Int) = S + tk n j + 0 by unfold tk; rw [if_neg (by omega), if_neg (by omega)]; omega, show ((j + 1 : Nat) : Int) = (j : Int) + 1 by omega] at ih
      exact ih
    · rw [show S + tk n ((j + 1 : Nat) : Int) = S + tk n j + 32768 / bm_p2 n by
        unfold tk; rw [if_pos (by omega), if_pos (by omega), show ((j + 1 : Nat) : Int) = (j : Int) + 1 by omega, Int.add_mul]; omega, show ((j + 1 : Nat) : Int) = (j : Int) + 1 by omega] at ih
      exact ⟨by omega, by rcases hp with hp | hp <;> omega, by omega, ih⟩
end Lens
