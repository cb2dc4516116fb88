/-! pack: the copy of a place -/
section FindCopy
variable {sc : bm_Sc}
/-- how many bytes are alike from a and b on, n at most -/
def ml (T : Int → Int) (a b : Int) : Nat → Int → Int
  | 0, k => k
  | n + 1, k => if T (a + k) = T (b + k) then ml T a b n (k + 1) else k
theorem ml_rg (T : Int → Int) (a b : Int) : ∀ (n : Nat) (k : Int), k ≤ ml T a b n k ∧ ml T a b n k ≤ k + n
  | 0, k => by show k ≤ k ∧ k ≤ k + ((0 : Nat) : Int); omega
  | n + 1, k => by
    have := ml_rg T a b n (k + 1)
    show k ≤ (if T (a + k) = T (b + k) then ml T a b n (k + 1) else k) ∧ (if T (a + k) = T (b + k) then ml T a b n (k + 1) else k) ≤ k + ((n + 1 : Nat) : Int)
    split <;> omega
theorem ml_all (T : Int → Int) (a b : Int) : ∀ (n : Nat) (k j : Int), k ≤ j → j < ml T a b n k → T (a + j) = T (b + j)
  | 0, k, j, h1, h2 => by have : ml T a b 0 k = k := rfl; omega
  | n + 1, k, j, h1, h2 => by
    by_cases c : T (a + k) = T (b + k)
    · have e : ml T a b (n + 1) k = ml T a b n (k + 1) := if_pos c
      by_cases q : j = k
      · rw [q]; exact c
      · exact ml_all T a b n (k + 1) j (by omega) (by omega)
    · have e : ml T a b (n + 1) k = k := if_neg c
      omega
/-- the best of the first n distances -/
def bcM (T : Int → Int) (p : Int) (L : Nat) : Nat → Int
  | 0 => 0
  | n + 1 => if 4 ≤ ml T (p - ((n + 1 : Nat) : Int)) p L 0 ∧ bcM T p L n < ml T (p - ((n + 1 : Nat) : Int)) p L 0 then ml T (p - ((n + 1 : Nat) : Int)) p L 0 else bcM T p L n
def bcD (T : Int → Int) (p : Int) (L : Nat) : Nat → Int
  | 0 => 0
  | n + 1 => if 4 ≤ ml T (p - ((n + 1 : Nat) : Int)) p L 0 ∧ bcM T p L n < ml T (p - ((n + 1 : Nat) : Int)) p L 0 then ((n + 1 : Nat) : Int) else bcD T p L n
theorem bc_rg (T : Int → Int) (p : Int) (L : Nat) : ∀ n : Nat, (bcM T p L n = 0 ∧ bcD T p L n = 0 ∨ 4 ≤ bcM T p L n ∧ 1 ≤ bcD T p L n ∧ bcD T p L n ≤ n) ∧ bcM T p L n ≤ L
  | 0 => ⟨Or.inl ⟨rfl, rfl⟩, by show (0 : Int) ≤ L; omega⟩
  | n + 1 => by
    have ih := bc_rg T p L n
    have hm := ml_rg T (p - ((n + 1 : Nat) : Int)) p L 0
    unfold bcM bcD
    by_cases c : 4 ≤ ml T (p - ((n + 1 : Nat) : Int)) p L 0 ∧ bcM T p L n < ml T (p - ((n + 1 : Nat) : Int)) p L 0
    · rw [if_pos c, if_pos c]; omega
    · rw [if_neg c, if_neg c]; omega
/-- distances that bring nothing -/
theorem bc_skip (T : Int → Int) (p : Int) (L : Nat) (n : Nat) : ∀ m : Nat, (∀ d : Nat, n < d → d ≤ n + m → ¬ (4 ≤ ml T (p - (d : Int)) p L 0 ∧ bcM T p L n < ml T (p - (d : Int)) p L 0)) → bcM T p L (n + m) = bcM T p L n ∧ bcD T p L (n + m) = bcD T p L n
  | 0, _ => ⟨rfl, rfl⟩
  | m + 1, h => by
    obtain ⟨e1, e2⟩ := bc_skip T p L n m (fun d h1 h2 => h d h1 (by omega))
    have := h (n + m + 1) (by omega) (by omega)
    constructor
    · show (if 4 ≤ ml T (p - ((n + m + 1 : Nat) : Int)) p L 0 ∧ bcM T p L (n + m) < ml T (p - ((n + m + 1 : Nat) : Int)) p L 0 then ml T (p - ((n + m + 1 : Nat) : Int)) p L 0 else bcM T p L (n + m)) = _
      rw [e1, if_neg this]
    · show (if 4 ≤ ml T (p - ((n + m + 1 : Nat) : Int)) p L 0 ∧ bcM T p L (n + m) < ml T (p - ((n + m + 1 : Nat) : Int)) p L 0 then ((n + m + 1 : Nat) : Int) else bcD T p L (n + m)) = _
      rw [e1, if_neg this, e2]
/-- the last place below n with a hash -/
def lp (hv : Int → Int) (h : Int) : Nat → Int
  | 0 => -1
  | n + 1 => if hv n = h then n else lp hv h n
theorem lp_rg (hv : Int → Int) (h : Int) : ∀ n : Nat, -1 ≤ lp hv h n ∧ lp hv h n < n
  | 0 => by show (-1 : Int) ≤ -1 ∧ (-1 : Int) < ((0 : Nat) : Int); omega
  | n + 1 => by
    have := lp_rg hv h n
    unfold lp
    split <;> omega
theorem lp_at (hv : Int → Int) (h : Int) : ∀ n : Nat, 0 ≤ lp hv h n → hv (lp hv h n) = h
  | 0, q => by have : lp hv h 0 = -1 := rfl; omega
  | n + 1, q => by
    by_cases c : hv n = h
    · have e : lp hv h (n + 1) = n := if_pos c
      rw [e]; exact c
    · have e : lp hv h (n + 1) = lp hv h n := if_neg c
      rw [e] at q ⊢; exact lp_at hv h n q
theorem lp_no (hv : Int → Int) (h : Int) : ∀ (n : Nat) (q : Nat), lp hv h n < q → q < n → hv q ≠ h
  | 0, q, _, h2 => by omega
  | n + 1, q, h1, h2 => by
    by_cases c : hv n = h
    · have e : lp hv h (n + 1) = n := if_pos c
      omega
    · have e : lp hv h (n + 1) = lp hv h n := if_neg c
      by_cases c2 : q = n
      · rw [c2]; exact c
      · exact lp_no hv h n q (by omega) (by omega)
def tb (T : Int → Int) (N k : Int) : Int := if k < 0 ∨ N ≤ k then 0 else T k % 256
theorem tb_rg (T : Int → Int) (N k : Int) : 0 ≤ tb T N k ∧ tb T N k < 256 := by unfold tb; split <;> omega
def hS (T : Int → Int) (N p : Int) : Int := tb T N p + 33 * tb T N (p + 1) + 1025 * tb T N (p + 2) + 4099 * tb T N (p + 3)
def hv (T : Int → Int) (N p : Int) : Int := bm_xor (hS T N p) (hS T N p / 1024) % 1024
theorem hv_rg (T : Int → Int) (N p : Int) : 0 ≤ hv T N p ∧ hv T N p < 1024 := by unfold hv; omega
theorem hv_eq {T : Int → Int} {N p q : Int} (hq : 0 ≤ q ∧ q < p) (hp : p + 3 < N) (h : ∀ j, 0 ≤ j → j < 4 → T (q + j) = T (p + j)) : hv T N q = hv T N p := by
  have e : ∀ j, 0 ≤ j → j < 4 → tb T N (q + j) = tb T N (p + j) := fun j a b => by unfold tb; rw [if_neg (by omega), if_neg (by omega), h j a b]
  have e0 := e 0 (by omega) (by omega)
  rw [show q + 0 = q by omega, show p + 0 = p by omega] at e0
  unfold hv hS
  rw [e0, e 1 (by omega) (by omega), e 2 (by omega) (by omega), e 3 (by omega) (by omega)]
variable {ι : bm_S} {H : Nat × Int → bm_S → Prop} {T : Int → Int} {N : Int}
/-- the row, as comp and the other have it -/
def TCo (ι : bm_S) (T : Int → Int) (N : Int) : Prop := ι 2 0 1 = N ∧ ∀ k, 0 ≤ k → k < N → ι 20 0 k = T k
def TMo (ι : bm_S) (T : Int → Int) (N : Int) : Prop := ι 13 0 59 = N ∧ ∀ k, 0 ≤ k → k < N → ι 74 0 k = T k
theorem s_tb {K : Int → bm_S → Prop} {k : Int} (hN : N ≤ 2400) (hT : TCo ι T N) (h : K (tb T N k) ι) : bC sc 15 [br 2 0, bi k] ι (bk1 K H) := by
  refine s_at (Or.inl rfl) (by rw [L20_0, hT.1]; exact hN) (K_of h ?_)
  unfold tb
  rw [hT.1]
  by_cases c : k < 0 ∨ N ≤ k
  · rw [if_pos c, if_pos c]
  · rw [if_neg c, if_neg c, hT.2 k (by omega) (by omega)]
theorem s_hash {K : Int → bm_S → Prop} {p : Int} (hN : N ≤ 2400) (hp : 0 ≤ p ∧ p ≤ 3000) (hT : TCo ι T N) (h : K (hv T N p) ι) : bC sc 55 [br 6 0, bi p] ι (bk1 K H) := by
  have a0 := tb_rg T N p
  have a1 := tb_rg T N (p + 1)
  have a2 := tb_rg T N (p + 2)
  have a3 := tb_rg T N (p + 3)
  exact e_F_hash_0 (s_tb hN hT ⟨by omega, s_tb hN hT ⟨by omega, by omega, by omega, s_tb hN hT ⟨by omega, by omega, by omega, s_tb hN hT ⟨by omega, by omega, by omega, h⟩⟩⟩⟩)
theorem s_same6 {K : Int → bm_S → Prop} {a b L : Int} (hN : N ≤ 2400) (ha : 0 ≤ a ∧ a < b) (hL : b + L ≤ N) (hT : TCo ι T N) : ∀ (m : Nat) (k : Int), k = L - m → 0 ≤ k → K (ml T a b m k) ι → bW sc 57 6 [br 6 0, bi a, bi b, bi L, bi k, bi k] [] ι (bk1 K H)
  | 0, k, hk, h0, h => e_F_sameBytes_6 (bif_t (by omega) h)
  | m + 1, k, hk, h0, h => by
    refine e_F_sameBytes_6 (bif_f (by omega) ?_)
    rw [hT.2 (a + k) (by omega) (by omega), hT.2 (b + k) (by omega) (by omega)]
    refine ⟨by omega, by omega, by omega, by omega, bif_i (fun c => ⟨by omega, by omega, ?_⟩) (fun c => K_of h (if_neg c))⟩
    exact s_same6 hN ha hL hT m (k + 1) (by omega) (by omega) (K_of h (if_pos c))
/-- the chains -/
def PH (ι : bm_S) (T : Int → Int) (N : Int) (kn : Nat) : Prop := ι 6 0 10 = kn ∧ (∀ h, 0 ≤ h → h < 1024 → ι 39 0 h = lp (hv T N) h kn) ∧ ∀ q : Nat, q < kn → ι 40 0 q = lp (hv T N) (hv T N q) q
/-- the copy of a place, at the end of its search -/
def cpM (T : Int → Int) (N : Int) (p : Nat) : Int := bcM T p (min 200 (N - p)).toNat p
def cpD (T : Int → Int) (N : Int) (p : Nat) : Int := bcD T p (min 200 (N - p)).toNat p
theorem s_copyEnd {K : bm_S → Prop} {p : Nat} {x2 x3 x4 x5 x6 : Int} {v7 : bm_V} (hp : p < 2000) (hc : 2000 ≤ x6 ∨ x5 < 0 ∨ x2 ≤ x3) (h0 : x4 ≤ 0 → cpM T N p = 0 ∧ cpD T N p = x4) (h1 : 0 < x4 → cpM T N p = x3 ∧ cpD T N p = x4) (h : K (up (up ι 35 0 p (cpM T N p)) 36 0 p (cpD T N p))) : bW sc 56 42 [br 6 0, bi p, bi x2, bi x3, bi x4, bi x5, bi x6, v7] [] ι (bk0 K H) := by
  have go : (if x4 ≤ (0 : Int) then (0 ≤ (p : Int) ∧ (p : Int) < (2000 : Int)) ∧ (0 ≤ (p : Int) ∧ (p : Int) < (2000 : Int)) ∧ K (up (up ι 35 0 p 0) 36 0 p x4) else (0 ≤ (p : Int) ∧ (p : Int) < (2000 : Int)) ∧ (0 ≤ (p : Int) ∧ (p : Int) < (2000 : Int)) ∧ K (up (up ι 35 0 p x3) 36 0 p x4)) := by
    refine bif_i (fun c => ⟨by omega, by omega, ?_⟩) (fun c => ⟨by omega, by omega, ?_⟩)
    · obtain ⟨e1, e2⟩ := h0 c
      rw [e1, e2] at h; exact h
    · obtain ⟨e1, e2⟩ := h1 (by omega)
      rw [e1, e2] at h; exact h
  exact e_F_findCopy_42 (bif_i (fun _ => go) (fun c1 => bif_i (fun _ => go) (fun c2 => bif_i (fun _ => go) (fun c3 => by omega))))
theorem s_copy42 {K : bm_S → Prop} {p : Nat} {L : Nat} (hN : N ≤ 2000) (hpN : (p : Int) + L ≤ N) (hL : (L : Int) = min 200 (N - p)) (h4 : 4 ≤ L) (hT : TCo ι T N) (hH : ∀ q : Nat, q < p → ι 40 0 q = lp (hv T N) (hv T N q) q) (h : K (up (up ι 35 0 p (cpM T N p)) 36 0 p (cpD T N p))) : ∀ (n : Nat) (x3 x4 x6 : Int) (v7 : bm_V), n ≤ p → x4 = bcD T p L (p - n) → x3 = max 3 (bcM T p L (p - n)) → 0 ≤ x6 → x6 + n ≤ p → bW sc 56 42 [br 6 0, bi p, bi L, bi x3, bi x4, bi (lp (hv T N) (hv T N p) n), bi x6, v7] [] ι (bk0 K H) := by
  have eL : L = (min 200 (N - p)).toNat := by omega
  have hcp : cpM T N p = bcM T p L p ∧ cpD T N p = bcD T p L p := by unfold cpM cpD; rw [← eL]; exact ⟨rfl, rfl⟩
  intro n
  induction n using Nat.strongRecOn with
  | _ n ih =>
    intro x3 x4 x6 v7 hn e4 e3 h0 h6
    have hb := bc_rg T p L (p - n)
    have hl := lp_rg (hv T N) (hv T N p) n
    -- nothing more comes
    have stop : (∀ d : Nat, p - n < d → d ≤ p → ¬ (4 ≤ ml T ((p : Int) - (d : Int)) p L 0 ∧ bcM T p L (p - n) < ml T ((p : Int) - (d : Int)) p L 0)) → (2000 ≤ x6 ∨ lp (hv T N) (hv T N p) n < 0 ∨ (L : Int) ≤ x3) → bW sc 56 42 [br 6 0, bi p, bi L, bi x3, bi x4, bi (lp (hv T N) (hv T N p) n), bi x6, v7] [] ι (bk0 K H) := fun hs hc => by
      have q := bc_skip T p L (p - n) n (fun d h1 h2 => hs d h1 (by omega))
      rw [show p - n + n = p by omega] at q
      refine s_copyEnd (by omega) hc (fun c => ?_) (fun c => ?_) h
      · rw [hcp.1, hcp.2, q.1, q.2]; omega
      · rw [hcp.1, hcp.2, q.1, q.2]; omega
    -- a place of another hash brings nothing
    have other : ∀ d : Nat, 1 ≤ d → d ≤ p → hv T N ((p - d : Nat) : Int) ≠ hv T N p → ¬ 4 ≤ ml T ((p : Int) - (d : Int)) p L 0 := fun d d1 d2 hne hm => by
      apply hne
      refine hv_eq (by omega) (by omega) (fun j j0 j1 => ?_)
      have := ml_all T ((p : Int) - (d : Int)) p L 0 j j0 (by omega)
      rw [show ((p - d : Nat) : Int) + j = (p : Int) - (d : Int) + j by omega]
      exact this
    by_cases c1 : lp (hv T N) (hv T N p) n < 0
    · refine stop (fun d h1 h2 hm => ?_) (Or.inr (Or.inl c1))
      exact other d (by omega) h2 (lp_no (hv T N) (hv T N p) n (p - d) (by omega) (by omega)) hm.1
    by_cases c2 : (L : Int) ≤ x3
    · refine stop (fun d h1 h2 hm => ?_) (Or.inr (Or.inr c2))
      have := ml_rg T ((p : Int) - (d : Int)) p L 0
      omega
    obtain ⟨q, hq⟩ : ∃ q : Nat, (q : Int) = lp (hv T N) (hv T N p) n := ⟨(lp (hv T N) (hv T N p) n).toNat, by omega⟩
    have hqh : hv T N q = hv T N p := by rw [hq]; exact lp_at (hv T N) (hv T N p) n (by omega)
    have hqn : q < n := by omega
    -- up to the place before q nothing is found
    have q1 := bc_skip T p L (p - n) (n - 1 - q) (fun d h1 h2 hm => other d (by omega) (by omega) (lp_no (hv T N) (hv T N p) n (p - d) (by omega) (by omega)) hm.1)
    have en : p - n + (n - 1 - q) = p - q - 1 := by omega
    rw [en] at q1
    have e40 := hH q (by omega)
    rw [hqh] at e40
    have step : ∀ x3' x4' : Int, ∀ v : bm_V, x4' = bcD T p L (p - q) → x3' = max 3 (bcM T p L (p - q)) → bW sc 56 42 [br 6 0, bi p, bi L, bi x3', bi x4', bi (ι 40 0 q), bi (x6 + 1), v] [] ι (bk0 K H) := fun x3' x4' v a b => by
      rw [e40]
      exact ih q hqn x3' x4' (x6 + 1) v (by omega) a b (by omega) (by omega)
    have epq : p - q = p - q - 1 + 1 := by omega
    have hml := ml_rg T q p L 0
    have emd : (p : Int) - ((p - q - 1 + 1 : Nat) : Int) = q := by omega
    -- the distance p - q
    have d1 : bcM T p L (p - q) = if 4 ≤ ml T q p L 0 ∧ bcM T p L (p - n) < ml T q p L 0 then ml T q p L 0 else bcM T p L (p - n) := by
      rw [epq]
      show (if 4 ≤ ml T ((p : Int) - ((p - q - 1 + 1 : Nat) : Int)) p L 0 ∧ bcM T p L (p - q - 1) < ml T ((p : Int) - ((p - q - 1 + 1 : Nat) : Int)) p L 0 then ml T ((p : Int) - ((p - q - 1 + 1 : Nat) : Int)) p L 0 else bcM T p L (p - q - 1)) = _
      rw [emd, q1.1]
    have d2 : bcD T p L (p - q) = if 4 ≤ ml T q p L 0 ∧ bcM T p L (p - n) < ml T q p L 0 then (p : Int) - q else bcD T p L (p - n) := by
      rw [epq]
      show (if 4 ≤ ml T ((p : Int) - ((p - q - 1 + 1 : Nat) : Int)) p L 0 ∧ bcM T p L (p - q - 1) < ml T ((p : Int) - ((p - q - 1 + 1 : Nat) : Int)) p L 0 then ((p - q - 1 + 1 : Nat) : Int) else bcD T p L (p - q - 1)) = _
      rw [emd, q1.1, q1.2, show ((p - q - 1 + 1 : Nat) : Int) = (p : Int) - q by omega]
    rw [← hq]
    refine e_F_findCopy_42 (bif_f (by omega) (bif_f (by omega) (bif_f c2 ?_)))
    rw [hT.2 ((q : Int) + x3) (by omega) (by omega), hT.2 ((p : Int) + x3) (by omega) (by omega)]
    refine ⟨by omega, by omega, by omega, by omega, bif_i (fun c3 => ?_) (fun c3 => ⟨by omega, by omega, ?_⟩)⟩
    · refine e_F_sameBytes_0 (s_same6 (by omega) (by omega) hpN hT L 0 (by omega) (by omega) (bif_i (fun c4 => ⟨by omega, by omega, ?_⟩) (fun c4 => ⟨by omega, by omega, by omega, ?_⟩)))
      · refine step x3 x4 _ ?_ ?_
        · rw [d2, if_neg (by omega)]; exact e4
        · rw [d1, if_neg (by omega)]; exact e3
      · refine step _ _ _ ?_ ?_
        · rw [d2, if_pos (by omega)]
        · rw [d1, if_pos (by omega)]; omega
    · have hle : ml T q p L 0 ≤ x3 := by
        by_cases z : ml T q p L 0 ≤ x3
        · exact z
        · exact absurd (ml_all T q p L 0 x3 (by omega) (by omega)) c3
      refine step x3 x4 _ ?_ ?_
      · rw [d2, if_neg (by omega)]; exact e4
      · rw [d1, if_neg (by omega)]; exact e3
theorem s_findCopy {K : bm_S → Prop} {p : Nat} (hN : N ≤ 2000) (hp : (p : Int) < N) (h11 : ι 6 0 11 = N) (hT : TCo ι T N) (hH : PH ι T N p) (h : K (up (up ι 35 0 p (cpM T N p)) 36 0 p (cpD T N p))) : bC sc 56 [br 6 0, bi p] ι (bk0 K H) := by
  refine e_F_findCopy_0 ?_
  rw [h11]
  obtain ⟨L, hL⟩ : ∃ L : Nat, (L : Int) = min 200 (N - p) := ⟨(min 200 (N - p)).toNat, by omega⟩
  rw [← hL]
  have hh := hv_rg T N p
  refine ⟨by omega, bif_i (fun c => s_hash (by omega) (by omega) hT ⟨by omega, ?_⟩) (fun c => ?_)⟩
  · rw [hH.2.1 _ hh.1 hh.2]
    exact s_copy42 hN (by omega) hL (by omega) hT hH.2.2 h p 3 0 0 _ (by omega) (by rw [Nat.sub_self]; rfl) (by rw [Nat.sub_self]; rfl) (by omega) (by omega)
  · have z : bcM T p L p = 0 ∧ bcD T p L p = 0 := by
      have := bc_rg T p L p
      omega
    have e : (min 200 (N - p)).toNat = L := by omega
    refine s_copyEnd (T := T) (N := N) (by omega) (Or.inr (Or.inl (by omega))) (fun _ => ?_) (fun q => by omega) h
    unfold cpM cpD
    rw [e]; exact z
/-! the other -/
theorem m_copy28 {Q : bm_O → bm_S → Prop} {p : Nat} {L : Nat} (hN : N ≤ 2000) (hpN : (p : Int) < N) (hL : (L : Int) = min 200 (N - p)) (hT : TMo ι T N) {d : Nat} (hd : 1 ≤ d ∧ d ≤ p) (h0 : ml T ((p : Int) - d) p L 0 < 4 ∨ ml T ((p : Int) - d) p L 0 ≤ ι 96 0 p → ∀ v : bm_V, bW sc 245 9 [br 13 0, bi p, bi ((d : Int) + 1), v] [] ι Q) (h1 : 4 ≤ ml T ((p : Int) - d) p L 0 ∧ ι 96 0 p < ml T ((p : Int) - d) p L 0 → ∀ v : bm_V, bW sc 245 9 [br 13 0, bi p, bi ((d : Int) + 1), v] [] (up (up ι 96 0 p (ml T ((p : Int) - d) p L 0)) 97 0 p d) Q) : ∀ (m : Nat) (k : Int), k = L - m → 0 ≤ k → ml T ((p : Int) - d) p m k = ml T ((p : Int) - d) p L 0 → bW sc 245 28 [br 13 0, bi p, bi d, bi k] [] ι Q := by
  intro m
  have fin : ∀ k : Int, 0 ≤ k ∧ k ≤ 200 → k = ml T ((p : Int) - d) p L 0 → (if k < (4 : Int) then (bm_rg ((d : Int) + 1)) ∧ bW sc 245 9 [br 13 0, bi p, bi ((d : Int) + 1), bi k] [] ι Q else (0 ≤ (p : Int) ∧ (p : Int) < (2001 : Int)) ∧ (if k ≤ ι 96 0 p then (bm_rg ((d : Int) + 1)) ∧ bW sc 245 9 [br 13 0, bi p, bi ((d : Int) + 1), bi k] [] ι Q else (0 ≤ (p : Int) ∧ (p : Int) < (2001 : Int)) ∧ (0 ≤ (p : Int) ∧ (p : Int) < (2001 : Int)) ∧ (bm_rg ((d : Int) + 1)) ∧ bW sc 245 9 [br 13 0, bi p, bi ((d : Int) + 1), bi k] [] (up (up ι 96 0 p k) 97 0 p d) Q)) := fun k hk e => by
    rw [← e] at h0 h1
    exact bif_i (fun c => ⟨by omega, h0 (Or.inl c) _⟩) (fun c => ⟨by omega, bif_i (fun c1 => ⟨by omega, h0 (Or.inr c1) _⟩) (fun c1 => ⟨by omega, by omega, by omega, h1 (by omega) _⟩)⟩)
  induction m with
  | zero =>
    intro k hk k0 e
    have e : k = ml T ((p : Int) - d) p L 0 := e
    exact e_M_findCopy_28 (bif_i (fun _ => fin k (by omega) e) (fun c => ⟨by omega, bif_t (by rw [hT.1]; omega) (fin k (by omega) e)⟩))
  | succ m ih =>
    intro k hk k0 e
    refine e_M_findCopy_28 (bif_f (by omega) ⟨by omega, bif_f (by rw [hT.1]; omega) ?_⟩)
    rw [hT.2 ((p : Int) + k) (by omega) (by omega), hT.2 ((p : Int) + k - d) (by omega) (by omega)]
    have ek : (p : Int) - d + k = (p : Int) + k - d := by omega
    have eu : ml T ((p : Int) - d) p (m + 1) k = if T ((p : Int) + k - d) = T ((p : Int) + k) then ml T ((p : Int) - d) p m (k + 1) else k := by
      show (if T ((p : Int) - d + k) = T ((p : Int) + k) then ml T ((p : Int) - d) p m (k + 1) else k) = _
      rw [ek]
    refine ⟨by omega, by omega, by omega, by omega, by omega, bif_i (fun c => ⟨by omega, ?_⟩) (fun c => fin k (by omega) ?_)⟩
    · rw [if_pos c.symm] at eu
      exact ih (k + 1) (by omega) (by omega) (eu.symm.trans e)
    · rw [if_neg (fun z => c z.symm)] at eu
      exact eu.symm.trans e
theorem m_copy9 {K : bm_S → Prop} {p : Nat} {L : Nat} (hN : N ≤ 2000) (hpN : (p : Int) < N) (hL : (L : Int) = min 200 (N - p)) : ∀ (m d : Nat) (v : bm_V) (ι : bm_S), d + m = p → TMo ι T N → ι 96 0 p = bcM T p L d → (0 < bcM T p L d → ι 97 0 p = bcD T p L d) → (∀ ι' : bm_S, ι' 96 0 p = bcM T p L p → (0 < bcM T p L p → ι' 97 0 p = bcD T p L p) → Fr (fun t i j => (t = 96 ∨ t = 97) ∧ j = p) ι ι' → K ι') → bW sc 245 9 [br 13 0, bi p, bi ((d : Int) + 1), v] [] ι (bk0 K H)
  | 0, d, v, ι, hd, hT, e6, e7, h => by
    have ed : d = p := by omega
    rw [ed] at e6 e7
    exact e_M_findCopy_9 (bif_t (by omega) (h ι e6 e7 (Fr.refl _ _)))
  | m + 1, d, v, ι, hd, hT, e6, e7, h => by
    have hb := bc_rg T p L d
    refine e_M_findCopy_9 (bif_f (by omega) ⟨by omega, bif_i (fun c => ?_) (fun c => ?_)⟩)
    · have q := bc_skip T p L d (p - d) (fun x h1 h2 hm => by
        have := ml_rg T ((p : Int) - (x : Int)) p L 0
        omega)
      rw [show d + (p - d) = p by omega] at q
      exact h ι (by rw [q.1]; exact e6) (by rw [q.1, q.2]; exact e7) (Fr.refl _ _)
    · have u1 : bcM T p L (d + 1) = if 4 ≤ ml T ((p : Int) - ((d + 1 : Nat) : Int)) p L 0 ∧ bcM T p L d < ml T ((p : Int) - ((d + 1 : Nat) : Int)) p L 0 then ml T ((p : Int) - ((d + 1 : Nat) : Int)) p L 0 else bcM T p L d := rfl
      have u2 : bcD T p L (d + 1) = if 4 ≤ ml T ((p : Int) - ((d + 1 : Nat) : Int)) p L 0 ∧ bcM T p L d < ml T ((p : Int) - ((d + 1 : Nat) : Int)) p L 0 then ((d + 1 : Nat) : Int) else bcD T p L d := rfl
      have ec : ((d : Int) + 1) = ((d + 1 : Nat) : Int) := by omega
      rw [ec]
      refine m_copy28 (T := T) (L := L) hN hpN hL hT (d := d + 1) (by omega) (fun c1 w => ?_) (fun c1 w => ?_) L 0 (by omega) (by omega) rfl
      · exact m_copy9 hN hpN hL m (d + 1) w ι (by omega) hT (by rw [u1, if_neg (by omega)]; exact e6) (by rw [u1, u2, if_neg (by omega), if_neg (by omega)]; exact e7) h
      · have F1 : Fr (fun t i j => (t = 96 ∨ t = 97) ∧ j = p) ι (up (up ι 96 0 p (ml T ((p : Int) - ((d + 1 : Nat) : Int)) p L 0)) 97 0 p ((d + 1 : Nat) : Int)) := ((Fr.refl _ _).u (by omega)).u (by omega)
        refine m_copy9 hN hpN hL m (d + 1) w _ (by omega) ⟨by simp (disch := omega) only [up_s, up_k, up_j, up_i]; exact hT.1, fun k x y => by simp (disch := omega) only [up_s, up_k, up_j, up_i]; exact hT.2 k x y⟩ (by rw [u1, if_pos (by omega)]; simp (disch := omega) only [up_s, up_k, up_j, up_i]) (fun _ => by rw [u2, if_pos (by omega)]; simp (disch := omega) only [up_s, up_k, up_j, up_i]) (fun ι' z1 z2 F2 => h ι' z1 z2 (F1.trans F2))
theorem m_findCopy {K : bm_S → Prop} {p : Nat} (hN : N ≤ 2000) (hp : (p : Int) < N) (hT : TMo ι T N) (h : ∀ ι' : bm_S, ι' 96 0 p = cpM T N p → (0 < cpM T N p → ι' 97 0 p = cpD T N p) → Fr (fun t i j => (t = 96 ∨ t = 97) ∧ j = p) ι ι' → K ι') : bC sc 245 [br 13 0, bi p] ι (bk0 K H) := by
  obtain ⟨L, hL⟩ : ∃ L : Nat, (L : Int) = min 200 (N - p) := ⟨(min 200 (N - p)).toNat, by omega⟩
  have e : (min 200 (N - p)).toNat = L := by omega
  unfold cpM cpD at h
  rw [e] at h
  have F1 : Fr (fun t i j => (t = 96 ∨ t = 97) ∧ j = p) ι (up ι 96 0 p 0) := (Fr.refl _ _).u (by omega)
  refine e_M_findCopy_0 ⟨by omega, ?_⟩
  exact m_copy9 (T := T) hN hp hL p 0 _ _ (by omega) ⟨by simp (disch := omega) only [up_s, up_k, up_j, up_i]; exact hT.1, fun k x y => by simp (disch := omega) only [up_s, up_k, up_j, up_i]; exact hT.2 k x y⟩ (by simp (disch := omega) only [up_s, up_k, up_j, up_i]; rfl) (fun z => absurd z (by show ¬ (0 : Int) < 0; omega)) (fun ι' z1 z2 F2 => h ι' z1 z2 (F1.trans F2))
end FindCopy
