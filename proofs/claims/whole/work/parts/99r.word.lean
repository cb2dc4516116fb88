/-! pack: the word of a place, and the other's search for it -/
section FindWord
variable {sc : bm_Sc}
def alleq (a b : Int → Int) : Nat → Bool
  | 0 => true
  | m + 1 => alleq a b m && decide (a m = b m)
theorem alleq_iff (a b : Int → Int) : ∀ m : Nat, alleq a b m = true ↔ ∀ i : Nat, i < m → a i = b i
  | 0 => ⟨fun _ i h => by omega, fun _ => rfl⟩
  | m + 1 => by
    unfold alleq
    rw [Bool.and_eq_true, alleq_iff a b m, decide_eq_true_eq]
    constructor
    · rintro ⟨h1, h2⟩ i hi
      by_cases c : i = m
      · rw [c]; exact h2
      · exact h1 i (by omega)
    · intro h
      exact ⟨fun i hi => h i (by omega), h m (by omega)⟩
theorem alleq_int {a b : Int → Int} {m : Int} (hm : 0 ≤ m) : alleq a b m.toNat = true ↔ ∀ i : Int, 0 ≤ i → i < m → a i = b i := by
  rw [alleq_iff]
  constructor
  · intro h i h0 h1
    have := h i.toNat (by omega)
    rw [show ((i.toNat : Nat) : Int) = i by omega] at this
    exact this
  · intro h i hi
    exact h i (by omega) (by omega)
/-- the size of the changed word k where it stands at p, else 0 -/
def wz (T : Int → Int) (N : Int) (g c : Int → Int) (p k : Int) : Int :=
  if k / 24 % 32 < c (4 + k / 24 / 32) ∧ 4 ≤ chs (4 + k / 24 / 32) (k % 24) ∧ p + chs (4 + k / 24 / 32) (k % 24) ≤ N ∧ alleq (fun i => chb g (4 + k / 24 / 32) (k / 24 % 32) (k % 24) i) (fun i => T (p + i)) (chs (4 + k / 24 / 32) (k % 24)).toNat = true then chs (4 + k / 24 / 32) (k % 24) else 0
theorem wz_rg {T : Int → Int} {N : Int} {g c : Int → Int} {p k : Int} : wz T N g c p k = 0 ∨ 4 ≤ wz T N g c p k := by unfold wz; split <;> omega
/-- the greatest of the first m, and the first that is so great -/
def wM (z : Int → Int) : Nat → Int
  | 0 => 0
  | m + 1 => if wM z m < z m then z m else wM z m
def wK (z : Int → Int) : Nat → Int
  | 0 => 0
  | m + 1 => if wM z m < z m then m else wK z m
theorem wM_ch {z : Int → Int} (hz : ∀ k, 0 ≤ z k) : ∀ m : Nat, (0 ≤ wM z m ∧ 0 ≤ wK z m) ∧ (wM z m = 0 → wK z m = 0) ∧ (∀ k : Nat, k < m → z k ≤ wM z m) ∧ (0 < wM z m → z (wK z m) = wM z m ∧ wK z m < m ∧ ∀ k : Nat, (k : Int) < wK z m → z k < wM z m)
  | 0 => ⟨⟨by show (0 : Int) ≤ 0; omega, by show (0 : Int) ≤ 0; omega⟩, fun _ => rfl, fun k h => by omega, fun h => by have : wM z 0 = 0 := rfl; omega⟩
  | m + 1 => by
    obtain ⟨i0, i1, i2, i3⟩ := wM_ch hz m
    by_cases c : wM z m < z m
    · have e1 : wM z (m + 1) = z m := if_pos c
      have e2 : wK z (m + 1) = m := if_pos c
      rw [e1, e2]
      refine ⟨⟨hz m, by omega⟩, fun q => by omega, fun k hk => ?_, fun _ => ⟨rfl, by omega, fun k hk => ?_⟩⟩
      · by_cases q : k = m
        · rw [q]; exact Int.le_refl _
        · have := i2 k (by omega); omega
      · have := i2 k (by omega); omega
    · have e1 : wM z (m + 1) = wM z m := if_neg c
      have e2 : wK z (m + 1) = wK z m := if_neg c
      rw [e1, e2]
      refine ⟨i0, i1, fun k hk => ?_, fun q => ⟨(i3 q).1, by have := (i3 q).2.1; omega, (i3 q).2.2⟩⟩
      by_cases q : k = m
      · rw [q]; omega
      · exact i2 k (by omega)
theorem wM_skip {z : Int → Int} (n : Nat) : ∀ m : Nat, (∀ k : Nat, n ≤ k → k < n + m → z k ≤ wM z n) → wM z (n + m) = wM z n ∧ wK z (n + m) = wK z n
  | 0, _ => ⟨rfl, rfl⟩
  | m + 1, h => by
    obtain ⟨e1, e2⟩ := wM_skip n m (fun k h1 h2 => h k h1 (by omega))
    have := h (n + m) (by omega) (by omega)
    constructor
    · show (if wM z (n + m) < z ((n + m : Nat) : Int) then z ((n + m : Nat) : Int) else wM z (n + m)) = _
      rw [e1, if_neg (by omega)]
    · show (if wM z (n + m) < z ((n + m : Nat) : Int) then ((n + m : Nat) : Int) else wK z (n + m)) = _
      rw [e1, e2, if_neg (by omega)]
theorem wM_un {z : Int → Int} (hz : ∀ k, 0 ≤ z k) {m : Nat} {A B : Int} (h : (A = 0 ∧ B = 0 ∧ ∀ k : Int, 0 ≤ k → k < m → z k = 0) ∨ (0 < A ∧ z B = A ∧ 0 ≤ B ∧ B < m ∧ (∀ k : Int, 0 ≤ k → k < m → z k ≤ A) ∧ ∀ k : Int, 0 ≤ k → k < B → z k < A)) : A = wM z m ∧ B = wK z m := by
  obtain ⟨i0, i1, i2, i3⟩ := wM_ch hz m
  rcases h with ⟨h1, h2, h3⟩ | ⟨h1, h2, h3, h4, h5, h6⟩
  · by_cases c : wM z m = 0
    · exact ⟨by omega, by rw [i1 c]; exact h2⟩
    · have q := i3 (by omega)
      have := h3 (wK z m) i0.2 q.2.1
      omega
  · have q1 := i2 B.toNat (by omega)
    rw [show ((B.toNat : Nat) : Int) = B by omega] at q1
    have q := i3 (by omega)
    have q2 := h5 (wK z m) i0.2 q.2.1
    have eA : A = wM z m := by omega
    refine ⟨eA, ?_⟩
    by_cases c : B < wK z m
    · have := q.2.2 B.toNat (by omega)
      rw [show ((B.toNat : Nat) : Int) = B by omega] at this
      omega
    · by_cases c2 : wK z m < B
      · have := h6 (wK z m) i0.2 c2
        omega
      · omega
variable {ι : bm_S} {H : Nat × Int → bm_S → Prop} {T : Int → Int} {N : Int} {g c : Int → Int}
/-- the words, as comp and the other have them -/
def GCo (ι : bm_S) (g c : Int → Int) : Prop := (∀ k, 0 ≤ k → k < 2240 → ι 64 0 k = g k) ∧ ∀ n, 4 ≤ n → n ≤ 10 → ι 65 0 n = c n
def GMo (ι : bm_S) (g c : Int → Int) : Prop := (∀ k, 0 ≤ k → k < 2240 → ι 68 0 k = g k) ∧ ∀ n, 4 ≤ n → n ≤ 10 → ι 69 0 n = c n
def GV (g c : Int → Int) : Prop := (∀ k, 0 ≤ k → k < 2240 → -128 ≤ g k ∧ g k < 128) ∧ ∀ n, 4 ≤ n → n ≤ 10 → 0 ≤ c n ∧ c n ≤ 32
/-- the word of a place: its size, its key -/
def wdM (T : Int → Int) (N : Int) (g c : Int → Int) (p : Int) : Int := wM (wz T N g c p) 5376
def wdK (T : Int → Int) (N : Int) (g c : Int → Int) (p : Int) : Int := wK (wz T N g c p) 5376
abbrev gWd (p : Int) (t : Nat) (_ j : Int) : Prop := (98 ≤ t ∧ t ≤ 101) ∧ j = p ∨ t = 70 ∨ t = 13 ∧ j = 10
/-- the other, in the middle of its search: the first m words are seen -/
def WS (ι : bm_S) (z : Int → Int) (p : Int) (m : Nat) : Prop := ι 98 0 p = wM z m ∧ (0 < wM z m → ι 99 0 p = 4 + wK z m / 24 / 32 ∧ ι 100 0 p = wK z m / 24 % 32 ∧ ι 101 0 p = wK z m % 24)
theorem WS.to {ι : bm_S} {z : Int → Int} {p : Int} {m m' : Nat} (h : WS ι z p m) (e1 : wM z m' = wM z m) (e2 : wK z m' = wK z m) : WS ι z p m' := by unfold WS; rw [e1, e2]; exact h
theorem m_word89 {Q : bm_O → bm_S → Prop} {p n w ch s : Int} {D : Int → Int} (hp : 0 ≤ p ∧ p < 2000) (hs : 0 ≤ s ∧ s ≤ 20) (hc : 0 ≤ ch ∧ ch < 24) (h10 : ι 13 0 10 = s) (hD : ∀ i, 0 ≤ i → i < s → ι 70 0 i = D i) (hpN : p + s ≤ N) (hN : N ≤ 2000) (hT : TMo ι T N) (h0 : (¬ ∀ i, 0 ≤ i → i < s → D i = T (p + i)) → ∀ v5 v6 : bm_V, bW sc 246 30 [br 13 0, bi p, bi n, bi w, bi (ch + 1), v5, v6] [] ι Q) (h1 : (∀ i, 0 ≤ i → i < s → D i = T (p + i)) → ∀ v5 v6 : bm_V, bW sc 246 30 [br 13 0, bi p, bi n, bi w, bi (ch + 1), v5, v6] [] (up (up (up (up ι 98 0 p s) 99 0 p n) 100 0 p w) 101 0 p ch) Q) : ∀ (m : Nat) (k : Int), k = s - m → 0 ≤ k → (∀ i, 0 ≤ i → i < k → D i = T (p + i)) → bW sc 246 89 [br 13 0, bi p, bi n, bi w, bi ch, bi 1, bi k] [] ι Q
  | 0, k, hk, k0, hk1 => by
    refine e_M_findWord_89 (bif_t (by omega) (bif_f (by omega) ⟨by omega, by omega, by omega, by omega, by omega, ?_⟩))
    rw [h10]
    exact h1 (fun i a b => hk1 i a (by omega)) _ _
  | m + 1, k, hk, k0, hk1 => by
    refine e_M_findWord_89 (bif_f (by omega) (bif_f (by omega) ?_))
    rw [hD k k0 (by omega), hT.2 (p + k) (by omega) (by omega)]
    refine ⟨by omega, by omega, by omega, bif_i (fun c1 => ⟨by omega, ?_⟩) (fun c1 => ⟨by omega, ?_⟩)⟩
    · refine m_word89 hp hs hc h10 hD hpN hN hT h0 h1 m (k + 1) (by omega) (by omega) (fun i a b => ?_)
      by_cases q : i = k
      · rw [q]; exact c1
      · exact hk1 i a (by omega)
    · have hn : ¬ ∀ i, 0 ≤ i → i < s → D i = T (p + i) := fun q => c1 (q k k0 (by omega))
      refine e_M_findWord_89 (bif_i (fun _ => bif_t rfl ⟨by omega, h0 hn _ _⟩) (fun _ => bif_t rfl (bif_t rfl ⟨by omega, h0 hn _ _⟩)))
theorem m_word30 {Q : bm_O → bm_S → Prop} {p n w : Int} (hp : 0 ≤ p ∧ p < N) (hN : N ≤ 2000) (hG : GV g c) (hn : 4 ≤ n ∧ n ≤ 10) (hw : 0 ≤ w ∧ w < c n) : ∀ (m : Nat) (ch : Int) (k : Nat) (v5 v6 : bm_V) (ι : bm_S), ch = 24 - m → 0 ≤ ch → (k : Int) = ((n - 4) * 32 + w) * 24 + ch → TMo ι T N → GMo ι g c → WS ι (wz T N g c p) p k → (∀ (ι' : bm_S) (v4 v5 v6 : bm_V), WS ι' (wz T N g c p) p (k + m) → Fr (gWd p) ι ι' → bW sc 246 17 [br 13 0, bi p, bi n, bi (w + 1), v4, v5, v6] [] ι' Q) → bW sc 246 30 [br 13 0, bi p, bi n, bi w, bi ch, v5, v6] [] ι Q := by
  have hz : ∀ k, 0 ≤ wz T N g c p k := fun k => by have := wz_rg (T := T) (N := N) (g := g) (c := c) (p := p) (k := k); omega
  have hc32 := hG.2 n hn.1 hn.2
  intro m
  induction m with
  | zero =>
    intro ch k v5 v6 ι hch h0 hk hT hG1 hS h
    exact e_M_findWord_30 (bif_t (by omega) ⟨by omega, h ι _ _ _ hS (Fr.refl _ _)⟩)
  | succ m ih =>
    intro ch k v5 v6 ι hch h0 hk hT hG1 hS h
    have hcc : 0 ≤ ch ∧ ch < 24 := by omega
    have hs := chs_rg hn hcc
    have hb : ∀ k, 0 ≤ k → k < 2240 → -128 ≤ ι 68 0 k ∧ ι 68 0 k < 128 := fun k x y => by rw [hG1.1 k x y]; exact hG.1 k x y
    have ek1 : (k : Int) / 24 = (n - 4) * 32 + w := by omega
    have ek2 : (k : Int) % 24 = ch := by omega
    have ek3 : (k : Int) / 24 / 32 = n - 4 := by omega
    have ek4 : (k : Int) / 24 % 32 = w := by omega
    have en : 4 + (n - 4) = n := by omega
    -- what the word k gives
    have ezp : p + chs n ch ≤ N → 4 ≤ chs n ch → (∀ i, 0 ≤ i → i < chs n ch → chb g n w ch i = T (p + i)) → wz T N g c p k = chs n ch := fun q1 q2 q3 => by
      unfold wz
      rw [ek2, ek3, ek4, en, if_pos ⟨hw.2, q2, q1, (alleq_int (by omega)).mpr q3⟩]
    have ezn : ¬ (p + chs n ch ≤ N ∧ 4 ≤ chs n ch ∧ ∀ i, 0 ≤ i → i < chs n ch → chb g n w ch i = T (p + i)) → wz T N g c p k = 0 := fun q => by
      unfold wz
      rw [ek2, ek3, ek4, en, if_neg (fun z => q ⟨z.2.2.1, z.2.1, (alleq_int (by omega)).mp z.2.2.2⟩)]
    have ezl : wz T N g c p k ≤ chs n ch := by
      unfold wz
      rw [ek2, ek3, ek4, en]
      split <;> omega
    have u1 : wM (wz T N g c p) (k + 1) = if wM (wz T N g c p) k < wz T N g c p k then wz T N g c p k else wM (wz T N g c p) k := rfl
    have u2 : wK (wz T N g c p) (k + 1) = if wM (wz T N g c p) k < wz T N g c p k then (k : Int) else wK (wz T N g c p) k := rfl
    refine e_M_findWord_30 (bif_f (by omega) (m_change hn ⟨hw.1, by omega⟩ hcc hb (fun ι1 x10 x70 F1 => ?_)))
    have F1' : Fr (gWd p) ι ι1 := F1.wide fun t i j q => by omega
    have hT1 : TMo ι1 T N := ⟨by rw [F1 13 0 59 (by omega)]; exact hT.1, fun k x y => by rw [F1 74 0 k (by omega)]; exact hT.2 k x y⟩
    have hG2 : GMo ι1 g c := ⟨fun k x y => by rw [F1 68 0 k (by omega)]; exact hG1.1 k x y, fun k x y => by rw [F1 69 0 k (by omega)]; exact hG1.2 k x y⟩
    have hS1 : WS ι1 (wz T N g c p) p k := by
      unfold WS
      rw [F1 98 0 p (by omega), F1 99 0 p (by omega), F1 100 0 p (by omega), F1 101 0 p (by omega)]
      exact hS
    have e98 : ι1 98 0 p = wM (wz T N g c p) k := hS1.1
    -- no update
    have no : wz T N g c p k ≤ wM (wz T N g c p) k → ∀ v5 v6 : bm_V, bW sc 246 30 [br 13 0, bi p, bi n, bi w, bi (ch + 1), v5, v6] [] ι1 Q := fun q v5 v6 => by
      refine ih (ch + 1) (k + 1) v5 v6 ι1 (by omega) (by omega) (by omega) hT1 hG2 (hS1.to (by rw [u1, if_neg (by omega)]) (by rw [u2, if_neg (by omega)])) (fun ι2 v4 v5 v6 z F2 => h ι2 v4 v5 v6 ?_ (F1'.trans F2))
      rw [show k + (m + 1) = k + 1 + m by omega]; exact z
    have no0 : wz T N g c p k ≤ wM (wz T N g c p) k → bW sc 246 89 [br 13 0, bi p, bi n, bi w, bi ch, bi 0, bi 0] [] ι1 Q := fun q => e_M_findWord_89 (bif_i (fun _ => bif_t rfl ⟨by omega, no q _ _⟩) (fun _ => bif_t rfl (bif_t rfl ⟨by omega, no q _ _⟩)))
    have hM0 := (wM_ch hz k).1.1
    rw [x10, e98, hT1.1]
    refine bif_i (fun c1 => no0 ?_) (fun c1 => ⟨by omega, bif_i (fun c2 => no0 ?_) (fun c2 => ⟨by omega, bif_i (fun c3 => no0 ?_) (fun c3 => ?_)⟩)⟩)
    · rw [ezn (fun z => by omega)]; exact hM0
    · omega
    · rw [ezn (fun z => by omega)]; exact hM0
    · refine m_word89 (D := fun i => chb (ι 68 0) n w ch i) (s := chs n ch) (by omega) (by omega) hcc x10 x70 (by omega) hN hT1 (fun q v5 v6 => no ?_ v5 v6) (fun q v5 v6 => ?_) (chs n ch).toNat 0 (by omega) (by omega) (fun i a b => by omega)
      · rw [ezn (fun z => q (fun i a b => by
          show chb (ι 68 0) n w ch i = T (p + i)
          rw [chb_ext hn ⟨hw.1, by omega⟩ hcc (fun k x y => hG1.1 k x y)]; exact z.2.2 i a b))]
        exact hM0
      · have eq : wz T N g c p k = chs n ch := ezp (by omega) (by omega) (fun i a b => by
          have := q i a b
          rw [← this]
          exact (chb_ext hn ⟨hw.1, by omega⟩ hcc (fun k x y => hG1.1 k x y)).symm)
        have F2 : Fr (gWd p) ι1 (up (up (up (up ι1 98 0 p (chs n ch)) 99 0 p n) 100 0 p w) 101 0 p ch) := ((((Fr.refl _ _).u (by omega)).u (by omega)).u (by omega)).u (by omega)
        refine ih (ch + 1) (k + 1) v5 v6 _ (by omega) (by omega) (by omega) ⟨by simp (disch := omega) only [up_s, up_k, up_j, up_i]; exact hT1.1, fun k x y => by simp (disch := omega) only [up_s, up_k, up_j, up_i]; exact hT1.2 k x y⟩ ⟨fun k x y => by simp (disch := omega) only [up_s, up_k, up_j, up_i]; exact hG2.1 k x y, fun k x y => by simp (disch := omega) only [up_s, up_k, up_j, up_i]; exact hG2.2 k x y⟩ ⟨?_, fun _ => ⟨?_, ?_, ?_⟩⟩ (fun ι2 v4 v5 v6 z F3 => h ι2 v4 v5 v6 ?_ ((F1'.trans F2).trans F3))
        · rw [u1, if_pos (by omega), eq]; simp (disch := omega) only [up_s, up_k, up_j, up_i]
        · rw [u2, if_pos (by omega), ek3]; simp (disch := omega) only [up_s, up_k, up_j, up_i]; omega
        · rw [u2, if_pos (by omega), ek4]; simp (disch := omega) only [up_s, up_k, up_j, up_i]
        · rw [u2, if_pos (by omega), ek2]; simp (disch := omega) only [up_s, up_k, up_j, up_i]
        · rw [show k + (m + 1) = k + 1 + m by omega]; exact z
theorem WS.fr {ι ι' : bm_S} {z : Int → Int} {p : Int} {m : Nat} {P : Nat → Int → Int → Prop} (h : WS ι z p m) (hF : Fr P ι ι') (hP : ¬ P 98 0 p ∧ ¬ P 99 0 p ∧ ¬ P 100 0 p ∧ ¬ P 101 0 p) : WS ι' z p m := by
  unfold WS
  rw [hF 98 0 p hP.1, hF 99 0 p hP.2.1, hF 100 0 p hP.2.2.1, hF 101 0 p hP.2.2.2]
  exact h
theorem m_word17 {Q : bm_O → bm_S → Prop} {p n : Int} (hp : 0 ≤ p ∧ p < N) (hN : N ≤ 2000) (hG : GV g c) (hn : 4 ≤ n ∧ n ≤ 10) : ∀ (m : Nat) (w : Int) (k : Nat) (v4 v5 v6 : bm_V) (ι : bm_S), w = c n - m → 0 ≤ w → (k : Int) = ((n - 4) * 32 + w) * 24 → TMo ι T N → GMo ι g c → WS ι (wz T N g c p) p k → (∀ (ι' : bm_S) (k' : Nat) (v3 v4 v5 v6 : bm_V), (k' : Int) = (n - 4) * 768 + 768 → WS ι' (wz T N g c p) p k' → Fr (gWd p) ι ι' → bW sc 246 9 [br 13 0, bi p, bi (n + 1), v3, v4, v5, v6] [] ι' Q) → bW sc 246 17 [br 13 0, bi p, bi n, bi w, v4, v5, v6] [] ι Q := by
  have hc32 := hG.2 n hn.1 hn.2
  have hz : ∀ k, 0 ≤ wz T N g c p k := fun k => by have := wz_rg (T := T) (N := N) (g := g) (c := c) (p := p) (k := k); omega
  intro m
  induction m with
  | zero =>
    intro w k v4 v5 v6 ι hw h0 hk hT hG1 hS h
    refine e_M_findWord_17 ⟨by omega, bif_t (by rw [hG1.2 n hn.1 hn.2]; omega) ⟨by omega, ?_⟩⟩
    obtain ⟨e, he⟩ : ∃ e : Nat, (k : Int) + e = (n - 4) * 768 + 768 := ⟨((n - 4) * 768 + 768 - k).toNat, by omega⟩
    have q := wM_skip (z := wz T N g c p) k e (fun x x1 x2 => by
      have e0 : wz T N g c p x = 0 := by
        unfold wz
        rw [if_neg]
        intro z
        have e1 : (x : Int) / 24 / 32 = n - 4 := by omega
        rw [e1, show 4 + (n - 4) = n by omega] at z
        have := z.1
        omega
      rw [e0]
      exact (wM_ch hz k).1.1)
    exact h ι (k + e) _ _ _ _ (by omega) (hS.to q.1 q.2) (Fr.refl _ _)
  | succ m ih =>
    intro w k v4 v5 v6 ι hw h0 hk hT hG1 hS h
    refine e_M_findWord_17 ⟨by omega, bif_f (by rw [hG1.2 n hn.1 hn.2]; omega) ?_⟩
    refine m_word30 hp hN hG hn ⟨h0, by omega⟩ 24 0 k _ _ ι (by omega) (by omega) (by omega) hT hG1 hS (fun ι1 v4 v5 v6 z F1 => ?_)
    exact ih (w + 1) (k + 24) v4 v5 v6 ι1 (by omega) (by omega) (by omega) ⟨by rw [F1 13 0 59 (by omega)]; exact hT.1, fun k x y => by rw [F1 74 0 k (by omega)]; exact hT.2 k x y⟩ ⟨fun k x y => by rw [F1 68 0 k (by omega)]; exact hG1.1 k x y, fun k x y => by rw [F1 69 0 k (by omega)]; exact hG1.2 k x y⟩ z (fun ι2 k' v3 v4 v5 v6 e z F2 => h ι2 k' v3 v4 v5 v6 e z (F1.trans F2))
theorem m_word9 {K : bm_S → Prop} {p : Int} (hp : 0 ≤ p ∧ p < N) (hN : N ≤ 2000) (hG : GV g c) : ∀ (m : Nat) (n : Int) (k : Nat) (v3 v4 v5 v6 : bm_V) (ι : bm_S), n = 11 - m → 4 ≤ n → (k : Int) = (n - 4) * 768 → TMo ι T N → GMo ι g c → WS ι (wz T N g c p) p k → (∀ ι' : bm_S, WS ι' (wz T N g c p) p 5376 → Fr (gWd p) ι ι' → K ι') → bW sc 246 9 [br 13 0, bi p, bi n, v3, v4, v5, v6] [] ι (bk0 K H) := by
  intro m
  induction m with
  | zero =>
    intro n k v3 v4 v5 v6 ι hn h0 hk hT hG1 hS h
    have : k = 5376 := by omega
    rw [this] at hS
    exact e_M_findWord_9 (bif_t (by omega) (h ι hS (Fr.refl _ _)))
  | succ m ih =>
    intro n k v3 v4 v5 v6 ι hn h0 hk hT hG1 hS h
    have hc32 := hG.2 n h0 (by omega)
    refine e_M_findWord_9 (bif_f (by omega) (m_word17 hp hN hG ⟨h0, by omega⟩ (c n).toNat 0 k _ _ _ ι (by omega) (by omega) (by omega) hT hG1 hS (fun ι1 k' v3 v4 v5 v6 e z F1 => ?_)))
    exact ih (n + 1) k' v3 v4 v5 v6 ι1 (by omega) (by omega) (by omega) ⟨by rw [F1 13 0 59 (by omega)]; exact hT.1, fun k x y => by rw [F1 74 0 k (by omega)]; exact hT.2 k x y⟩ ⟨fun k x y => by rw [F1 68 0 k (by omega)]; exact hG1.1 k x y, fun k x y => by rw [F1 69 0 k (by omega)]; exact hG1.2 k x y⟩ z (fun ι2 z F2 => h ι2 z (F1.trans F2))
theorem m_findWord {K : bm_S → Prop} {p : Int} (hp : 0 ≤ p ∧ p < N) (hN : N ≤ 2000) (hG : GV g c) (hT : TMo ι T N) (hG1 : GMo ι g c) (h : ∀ ι' : bm_S, ι' 98 0 p = wdM T N g c p → (0 < wdM T N g c p → ι' 99 0 p = 4 + wdK T N g c p / 24 / 32 ∧ ι' 100 0 p = wdK T N g c p / 24 % 32 ∧ ι' 101 0 p = wdK T N g c p % 24) → Fr (gWd p) ι ι' → K ι') : bC sc 246 [br 13 0, bi p] ι (bk0 K H) := by
  have F1 : Fr (gWd p) ι (up ι 98 0 p 0) := (Fr.refl _ _).u (by omega)
  refine e_M_findWord_0 ⟨by omega, ?_⟩
  refine m_word9 hp hN hG 7 4 0 _ _ _ _ _ (by omega) (by omega) (by omega) ⟨by simp (disch := omega) only [up_s, up_k, up_j, up_i]; exact hT.1, fun k x y => by simp (disch := omega) only [up_s, up_k, up_j, up_i]; exact hT.2 k x y⟩ ⟨fun k x y => by simp (disch := omega) only [up_s, up_k, up_j, up_i]; exact hG1.1 k x y, fun k x y => by simp (disch := omega) only [up_s, up_k, up_j, up_i]; exact hG1.2 k x y⟩ ⟨by simp (disch := omega) only [up_s, up_k, up_j, up_i]; rfl, fun z => absurd z (by show ¬ (0 : Int) < 0; omega)⟩ (fun ι' z F2 => h ι' z.1 z.2 (F1.trans F2))
end FindWord
