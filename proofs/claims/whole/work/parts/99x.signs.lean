/-! pack: the signs of commands and distances -/
section Signs
variable {sc : bm_Sc} {ι : bm_S} {H : Nat × Int → bm_S → Prop} {K : Int → bm_S → Prop}
def cod (t : Int → Int) (v : Int) : Nat → Int
  | 0 => 0
  | n + 1 => if t n ≤ v then n else cod t v n
theorem cod_rg (t : Int → Int) (v : Int) : ∀ n : Nat, 0 ≤ cod t v (n + 1) ∧ cod t v (n + 1) ≤ n
  | 0 => by
    show 0 ≤ (if t ((0 : Nat) : Int) ≤ v then ((0 : Nat) : Int) else 0) ∧ (if t ((0 : Nat) : Int) ≤ v then ((0 : Nat) : Int) else 0) ≤ ((0 : Nat) : Int)
    split <;> omega
  | n + 1 => by
    have ih := cod_rg t v n
    show 0 ≤ (if t ((n + 1 : Nat) : Int) ≤ v then ((n + 1 : Nat) : Int) else cod t v (n + 1)) ∧ (if t ((n + 1 : Nat) : Int) ≤ v then ((n + 1 : Nat) : Int) else cod t v (n + 1)) ≤ ((n + 1 : Nat) : Int)
    split <;> omega
theorem cod_stop (t : Int → Int) (v : Int) (n : Nat) : ∀ m : Nat, (∀ j : Nat, n ≤ j → j < n + m → v < t j) → cod t v (n + m) = cod t v n
  | 0, _ => rfl
  | m + 1, h => by
    have := h (n + m) (by omega) (by omega)
    show (if t ((n + m : Nat) : Int) ≤ v then ((n + m : Nat) : Int) else cod t v (n + m)) = _
    rw [if_neg (by omega)]
    exact cod_stop t v n m (fun j a b => h j a (by omega))
theorem ia_mono : ∀ (m n : Nat), n + m < 24 → ia n ≤ ia ((n + m : Nat) : Int) ∧ ya n ≤ ya ((n + m : Nat) : Int)
  | 0, n, _ => ⟨Int.le_refl _, Int.le_refl _⟩
  | m + 1, n, h => by
    have ih := ia_mono m n (by omega)
    have b := ib_rg (k := ((n + m : Nat) : Int)) (by omega)
    have q := b.2.1 (by omega)
    have p1 := bm_p2pos (ib ((n + m : Nat) : Int))
    have p2 := bm_p2pos (yb ((n + m : Nat) : Int))
    rw [show ((n + (m + 1) : Nat) : Int) = ((n + m : Nat) : Int) + 1 by omega, q.1, q.2]
    omega
theorem s_codeOf200 {v : Int} (h : K (cod ia v 24) ι) : bC sc 104 [br 200 0, bi v] ι (bk1 K H) := by
  have go : ∀ (m n : Nat), n + m = 24 → bW sc 104 4 [br 200 0, bi v, bi (cod ia v n), bi n] [] ι (bk1 K H) := by
    intro m
    induction m with
    | zero => intro n hn; have e : n = 24 := by omega
              rw [e]; exact e_P_codeOf_200_4 (bif_t (by omega) h)
    | succ m ih =>
      intro n hn
      refine e_P_codeOf_200_4 (bif_f (by omega) ⟨by omega, ?_⟩)
      rw [X200]
      have q := ih (n + 1) (by omega)
      have e : cod ia v (n + 1) = if ia n ≤ v then (n : Int) else cod ia v n := rfl
      rw [show ((n + 1 : Nat) : Int) = (n : Int) + 1 by omega, e] at q
      refine bif_i (fun z => ⟨by omega, ?_⟩) (fun z => ⟨by omega, ?_⟩)
      · rw [if_neg (by omega)] at q; exact q
      · rw [if_pos (by omega)] at q; exact q
  exact e_P_codeOf_200_0 (go 24 0 rfl)
theorem s_codeOf201 {v : Int} (h : K (cod ya v 24) ι) : bC sc 104 [br 201 0, bi v] ι (bk1 K H) := by
  have go : ∀ (m n : Nat), n + m = 24 → bW sc 104 4 [br 201 0, bi v, bi (cod ya v n), bi n] [] ι (bk1 K H) := by
    intro m
    induction m with
    | zero => intro n hn; have e : n = 24 := by omega
              rw [e]; exact e_P_codeOf_201_4 (bif_t (by omega) h)
    | succ m ih =>
      intro n hn
      refine e_P_codeOf_201_4 (bif_f (by omega) ⟨by omega, ?_⟩)
      rw [X201]
      have q := ih (n + 1) (by omega)
      have e : cod ya v (n + 1) = if ya n ≤ v then (n : Int) else cod ya v n := rfl
      rw [show ((n + 1 : Nat) : Int) = (n : Int) + 1 by omega, e] at q
      refine bif_i (fun z => ⟨by omega, ?_⟩) (fun z => ⟨by omega, ?_⟩)
      · rw [if_neg (by omega)] at q; exact q
      · rw [if_pos (by omega)] at q; exact q
  exact e_P_codeOf_201_0 (go 24 0 rfl)
theorem m_codeOf {v x1 : Int} {t : Int → Int} (ht : x1 = 0 ∧ t = ya ∨ x1 = 1 ∧ t = ia) (h : K (cod t v 24) ι) : bC sc 249 [bi v, bi x1] ι (bk1 K H) := by
  have mono : ∀ (n j : Nat), n ≤ j → j < 24 → t n ≤ t j := fun n j a b => by
    have := ia_mono (j - n) n (by omega)
    rw [show n + (j - n) = j by omega] at this
    rcases ht with ⟨_, e⟩ | ⟨_, e⟩ <;> rw [e] <;> omega
  have go : ∀ (m n : Nat), n + m = 23 → cod t v (n + 1) = n → bW sc 249 2 [bi v, bi x1, bi n] [] ι (bk1 K H) := by
    intro m
    induction m with
    | zero =>
      intro n hn e
      have e2 : n = 23 := by omega
      rw [e2] at e ⊢
      exact e_M_codeOf_2 (bif_t (by omega) (K_of h e))
    | succ m ih =>
      intro n hn e
      have stop : v < t ((n : Int) + 1) → K n ι := fun z => K_of h (by
        have q := cod_stop t v (n + 1) (23 - n) (fun j a b => by
          have := mono (n + 1) j a (by omega)
          rw [show ((n + 1 : Nat) : Int) = (n : Int) + 1 by omega] at this
          omega)
        rw [show n + 1 + (23 - n) = 24 by omega] at q
        rw [q]; exact e)
      have next : ¬ v < t ((n : Int) + 1) → bW sc 249 2 [bi v, bi x1, bi ((n : Int) + 1)] [] ι (bk1 K H) := fun z => by
        have q := ih (n + 1) (by omega) (by
          show (if t ((n + 1 : Nat) : Int) ≤ v then ((n + 1 : Nat) : Int) else cod t v (n + 1)) = _
          rw [if_pos (by rw [show ((n + 1 : Nat) : Int) = (n : Int) + 1 by omega]; omega)])
        rw [show ((n + 1 : Nat) : Int) = (n : Int) + 1 by omega] at q
        exact q
      refine e_M_codeOf_2 (bif_f (by omega) ?_)
      rcases ht with ⟨e1, e2⟩ | ⟨e1, e2⟩
      · rw [e2] at stop next
        exact bif_t e1 ⟨by omega, m_copyBase (by omega) (bif_i (fun z => stop z) (fun z => ⟨by omega, next z⟩))⟩
      · rw [e2] at stop next
        exact bif_f (by omega) ⟨by omega, m_insertBase (by omega) (bif_i (fun z => stop z) (fun z => ⟨by omega, next z⟩))⟩
  refine e_M_codeOf_0 (go 23 0 rfl ?_)
  show (if t ((0 : Nat) : Int) ≤ v then ((0 : Nat) : Int) else 0) = ((0 : Nat) : Int)
  split <;> rfl
def cel (i k : Int) : Int := if i = 0 then (if k = 0 then 2 else if k = 1 then 3 else 6) else if i = 1 then (if k = 0 then 4 else if k = 1 then 5 else 8) else (if k = 0 then 7 else if k = 1 then 9 else 10)
theorem cel_rg (i k : Int) : 2 ≤ cel i k ∧ cel i k ≤ 10 := by unfold cel; grind
theorem cel_is {i k x : Int} (hi : 0 ≤ i ∧ i < 3) (hk : 0 ≤ k ∧ k < 3) (hx : 2 ≤ x ∧ x < 11) : (i8 x = i ∧ y8 x = k) ↔ x = cel i k := by
  have e := i8_rg (k := x) (by omega)
  have h1 : i = 0 ∨ i = 1 ∨ i = 2 := by omega
  have h2 : k = 0 ∨ k = 1 ∨ k = 2 := by omega
  have h3 : x = 2 ∨ x = 3 ∨ x = 4 ∨ x = 5 ∨ x = 6 ∨ x = 7 ∨ x = 8 ∨ x = 9 ∨ x = 10 := by omega
  rcases h1 with rfl | rfl | rfl <;> rcases h2 with rfl | rfl | rfl <;> rcases h3 with rfl | rfl | rfl | rfl | rfl | rfl | rfl | rfl | rfl <;> decide
/-- the cell and the sign of a command -/
def clv (a b s : Int) : Int := if s = 0 ∧ a < 8 ∧ b < 16 then b / 8 else cel (a / 8) (b / 8)
def csg (a b s : Int) : Int := 64 * clv a b s + 8 * (a % 8) + b % 8
theorem s_cmdSign24 {a b : Int} {v2 : bm_V} (ha : 0 ≤ a ∧ a < 24) (hb : 0 ≤ b ∧ b < 24) (h : K (64 * cel (a / 8) (b / 8) + 8 * (a % 8) + b % 8) ι) : ∀ (m : Nat) (x3 x4 : Int), x4 = 11 - m → 2 ≤ x4 → (cel (a / 8) (b / 8) < x4 → x3 = cel (a / 8) (b / 8)) → bW sc 105 24 [bi a, bi b, v2, bi x3, bi x4] [] ι (bk1 K H)
  | 0, x3, x4, hm, h0, hx => by
    have hc := cel_rg (a / 8) (b / 8)
    have e := hx (by omega)
    rw [e]
    exact e_P_commandSign_24 (bif_t (by omega) ⟨by omega, by omega, by omega, by omega, by omega, by omega, h⟩)
  | m + 1, x3, x4, hm, h0, hx => by
    have hc := cel_rg (a / 8) (b / 8)
    have hi := cel_is (i := a / 8) (k := b / 8) (x := x4) (by omega) (by omega) (by omega)
    refine e_P_commandSign_24 (bif_f (by omega) ⟨by omega, by omega, ?_⟩)
    rw [X202, X203]
    have keep : x4 ≠ cel (a / 8) (b / 8) → bW sc 105 24 [bi a, bi b, v2, bi x3, bi (x4 + 1)] [] ι (bk1 K H) := fun z => s_cmdSign24 ha hb h m x3 (x4 + 1) (by omega) (by omega) (fun q => hx (by omega))
    refine bif_i (fun z => ⟨by omega, by omega, bif_i (fun z1 => ⟨by omega, ?_⟩) (fun z1 => ⟨by omega, keep (fun q => z1 (hi.mpr q).2)⟩)⟩) (fun z => ⟨by omega, keep (fun q => z (hi.mpr q).1)⟩)
    exact s_cmdSign24 ha hb h m x4 (x4 + 1) (by omega) (by omega) (fun q => hi.mp ⟨z, z1⟩)
theorem s_cmdSign {a b s : Int} (ha : 0 ≤ a ∧ a < 24) (hb : 0 ≤ b ∧ b < 24) (h : K (csg a b s) ι) : bC sc 105 [bi a, bi b, bi s] ι (bk1 K H) := by
  unfold csg clv at h
  refine e_P_commandSign_0 ⟨by omega, bif_i (fun z => bif_i (fun z1 => ?_) (fun z1 => bif_i (fun z2 => ⟨by omega, by omega, by omega, by omega, by omega, by omega, ?_⟩) (fun z2 => ?_))) (fun z => ?_)⟩
  · rw [if_neg (by omega)] at h
    exact s_cmdSign24 ha hb h 9 _ _ (by omega) (by omega) (fun q => by have := cel_rg (a / 8) (b / 8); omega)
  · rw [if_pos (by omega)] at h; exact h
  · rw [if_neg (by omega)] at h
    exact s_cmdSign24 ha hb h 9 _ _ (by omega) (by omega) (fun q => by have := cel_rg (a / 8) (b / 8); omega)
  · rw [if_neg (by omega)] at h
    exact s_cmdSign24 ha hb h 9 _ _ (by omega) (by omega) (fun q => by have := cel_rg (a / 8) (b / 8); omega)
theorem m_cellOf {i k : Int} (hi : 0 ≤ i ∧ i < 3) (hk : 0 ≤ k ∧ k < 3) (h : K (cel i k) ι) : bC sc 250 [bi i, bi k] ι (bk1 K H) := by
  have hc := cel_rg i k
  have go : ∀ (m : Nat) (x : Int), x = cel i k - m → 2 ≤ x → bW sc 250 2 [bi i, bi k, bi x] [] ι (bk1 K H) := by
    intro m
    induction m with
    | zero =>
      intro x hx h2
      have q := (cel_is hi hk (x := x) (by omega)).mpr (by omega)
      exact e_M_cellOf_2 (m_insertEight (by omega) (bif_t q.1 (m_copyEight (by omega) (bif_t q.2 (K_of h (by omega))))))
    | succ m ih =>
      intro x hx h2
      have q := cel_is hi hk (x := x) (by omega)
      refine e_M_cellOf_2 (m_insertEight (by omega) (bif_i (fun z => m_copyEight (by omega) (bif_f (fun z1 => ?_) ⟨by omega, ih (x + 1) (by omega) (by omega)⟩)) (fun z => ⟨by omega, ih (x + 1) (by omega) (by omega)⟩)))
      have := q.mp ⟨z, z1⟩
      omega
  exact e_M_cellOf_0 (go (cel i k - 2).toNat 2 (by omega) (by omega))
/-! distances -/
def lgn (d : Int) : Int := if d + 3 < 8 then 1 else if d + 3 < 16 then 2 else if d + 3 < 32 then 3 else if d + 3 < 64 then 4 else if d + 3 < 128 then 5 else if d + 3 < 256 then 6 else if d + 3 < 512 then 7 else if d + 3 < 1024 then 8 else if d + 3 < 2048 then 9 else 10
theorem lgn_rg {d : Int} (hd : 1 ≤ d ∧ d + 3 < 4096) : (1 ≤ lgn d ∧ lgn d ≤ 10) ∧ bm_p2 (lgn d + 1) ≤ d + 3 ∧ d + 3 < bm_p2 (lgn d + 2) := by
  have c2 : bm_p2 2 = 4 := rfl
  have c3 : bm_p2 3 = 8 := rfl
  have c4 : bm_p2 4 = 16 := rfl
  have c5 : bm_p2 5 = 32 := rfl
  have c6 : bm_p2 6 = 64 := rfl
  have c7 : bm_p2 7 = 128 := rfl
  have c8 : bm_p2 8 = 256 := rfl
  have c9 : bm_p2 9 = 512 := rfl
  have c10 : bm_p2 10 = 1024 := rfl
  have c11 : bm_p2 11 = 2048 := rfl
  have c12 : bm_p2 12 = 4096 := rfl
  unfold lgn
  by_cases z1 : d + 3 < 8
  · rw [if_pos z1]; exact ⟨by omega, by show bm_p2 2 ≤ _; omega, by show _ < bm_p2 3; omega⟩
  rw [if_neg z1]
  by_cases z2 : d + 3 < 16
  · rw [if_pos z2]; exact ⟨by omega, by show bm_p2 3 ≤ _; omega, by show _ < bm_p2 4; omega⟩
  rw [if_neg z2]
  by_cases z3 : d + 3 < 32
  · rw [if_pos z3]; exact ⟨by omega, by show bm_p2 4 ≤ _; omega, by show _ < bm_p2 5; omega⟩
  rw [if_neg z3]
  by_cases z4 : d + 3 < 64
  · rw [if_pos z4]; exact ⟨by omega, by show bm_p2 5 ≤ _; omega, by show _ < bm_p2 6; omega⟩
  rw [if_neg z4]
  by_cases z5 : d + 3 < 128
  · rw [if_pos z5]; exact ⟨by omega, by show bm_p2 6 ≤ _; omega, by show _ < bm_p2 7; omega⟩
  rw [if_neg z5]
  by_cases z6 : d + 3 < 256
  · rw [if_pos z6]; exact ⟨by omega, by show bm_p2 7 ≤ _; omega, by show _ < bm_p2 8; omega⟩
  rw [if_neg z6]
  by_cases z7 : d + 3 < 512
  · rw [if_pos z7]; exact ⟨by omega, by show bm_p2 8 ≤ _; omega, by show _ < bm_p2 9; omega⟩
  rw [if_neg z7]
  by_cases z8 : d + 3 < 1024
  · rw [if_pos z8]; exact ⟨by omega, by show bm_p2 9 ≤ _; omega, by show _ < bm_p2 10; omega⟩
  rw [if_neg z8]
  by_cases z9 : d + 3 < 2048
  · rw [if_pos z9]; exact ⟨by omega, by show bm_p2 10 ≤ _; omega, by show _ < bm_p2 11; omega⟩
  rw [if_neg z9]; exact ⟨by omega, by show bm_p2 11 ≤ _; omega, by show _ < bm_p2 12; omega⟩
theorem s_bitsIn {v nb : Int} (hv : 0 ≤ v ∧ v < 4096) (hnb : 1 ≤ nb ∧ nb ≤ 12) (h1 : bm_p2 (nb - 1) ≤ v) (h2 : v < bm_p2 nb) (h : K nb ι) : bC sc 141 [bi v] ι (bk1 K H) := by
  have go : ∀ (m : Nat) (k : Int), k = 31 - m → 0 ≤ k → bW sc 141 4 [bi v, bi (min k nb), bi k] [] ι (bk1 K H) := by
    intro m
    induction m with
    | zero => intro k hk k0; exact e_X_bitsIn_4 (bif_t (by omega) (K_of h (by omega)))
    | succ m ih =>
      intro k hk k0
      have hp := bm_p2pos k
      have q := ih (k + 1) (by omega) (by omega)
      refine e_X_bitsIn_4 (bif_f (by omega) ⟨by omega, bif_i (fun z => ⟨by omega, ?_⟩) (fun z => ⟨by omega, by omega, ?_⟩)⟩)
      · have hk2 : nb ≤ k := by
          by_cases w : nb ≤ k
          · exact w
          · exfalso
            have m1 := p2_mono (a := k) (b := nb - 1) (by omega)
            have : 1 ≤ v / bm_p2 k := by
              rw [Int.le_ediv_iff_mul_le (by omega)]; omega
            omega
        rw [show min (k + 1) nb = min k nb by omega] at q
        exact q
      · have hk2 : k < nb := by
          by_cases w : k < nb
          · exact w
          · exfalso
            have m1 := p2_mono (a := nb) (b := k) (by omega)
            have : v / bm_p2 k = 0 := Int.ediv_eq_zero_of_lt hv.1 (by omega)
            omega
        rw [show min (k + 1) nb = k + 1 by omega] at q
        exact q
  have q := go 31 0 (by omega) (by omega)
  rw [show min 0 nb = 0 by omega] at q
  exact e_X_bitsIn_0 q
def sgn (rg : Int → Int) (d : Int) : Int := if rg 0 = d then 0 else if rg 1 = d then 1 else if rg 2 = d then 2 else if rg 3 = d then 3 else 16 + 2 * (lgn d - 1) + (d + 3) / bm_p2 (lgn d) % 2
theorem sgn_rg {rg : Int → Int} {d : Int} (hd : 1 ≤ d ∧ d + 3 < 4096) : 0 ≤ sgn rg d ∧ sgn rg d < 64 := by
  have h := lgn_rg hd
  unfold sgn
  grind
theorem s_distSign {rg : Int → Int} {d : Int} (hd : 1 ≤ d ∧ d + 3 < 4096) (hr : ∀ i, 0 ≤ i → i < 4 → ι 63 0 i = rg i) (h : K (sgn rg d) ι) : bC sc 103 [br 9 0, bi d] ι (bk1 K H) := by
  have hl := lgn_rg hd
  unfold sgn at h
  refine e_P_distanceSign_0 (e_P_distanceSign_2 (bif_f (by omega) ⟨by omega, ?_⟩))
  rw [hr 0 (by omega) (by omega)]
  refine bif_i (fun z => by rw [if_pos z] at h; exact h) (fun z => ⟨by omega, e_P_distanceSign_2 (bif_f (by omega) ⟨by omega, ?_⟩)⟩)
  rw [if_neg z] at h
  rw [show (0 : Int) + 1 = 1 by omega, hr 1 (by omega) (by omega)]
  refine bif_i (fun z1 => by rw [if_pos z1] at h; exact h) (fun z1 => ⟨by omega, e_P_distanceSign_2 (bif_f (by omega) ⟨by omega, ?_⟩)⟩)
  rw [if_neg z1] at h
  rw [show (1 : Int) + 1 = 2 by omega, hr 2 (by omega) (by omega)]
  refine bif_i (fun z2 => by rw [if_pos z2] at h; exact h) (fun z2 => ⟨by omega, e_P_distanceSign_2 (bif_f (by omega) ⟨by omega, ?_⟩)⟩)
  rw [if_neg z2] at h
  rw [show (2 : Int) + 1 = 3 by omega, hr 3 (by omega) (by omega)]
  refine bif_i (fun z3 => by rw [if_pos z3] at h; exact h) (fun z3 => ⟨by omega, e_P_distanceSign_2 (bif_t (by omega) ⟨by omega, s_bitsIn (nb := lgn d + 2) (by omega) (by omega) (by rw [show lgn d + 2 - 1 = lgn d + 1 by omega]; exact hl.2.1) hl.2.2 ?_⟩)⟩)
  rw [if_neg z3] at h
  rw [show lgn d + 2 - 2 = lgn d by omega]
  exact ⟨by omega, by omega, by omega, by omega, by omega, by omega, by omega, h⟩
theorem m_signOf29 {d : Int} {v0 : bm_V} (hd : 1 ≤ d ∧ d + 3 < 4096) (h : K (16 + 2 * (lgn d - 1) + (d + 3) / bm_p2 (lgn d) % 2) ι) : ∀ (m : Nat) (n : Int), n = lgn d - m → 1 ≤ n → bW sc 251 29 [v0, bi d, bi n] [] ι (bk1 K H)
  | 0, n, hn, h1 => by
    have hl := lgn_rg hd
    have e : n = lgn d := by omega
    have hp := p2_le (k := lgn d) 10 hl.1.2 1024 rfl
    have hs : bm_p2 (lgn d + 2) = 4 * bm_p2 (lgn d) := by rw [show lgn d + 2 = lgn d + 1 + 1 by omega, p2_s (by omega), p2_s (by omega)]; omega
    rw [e]
    exact e_M_signOf_29 ⟨⟨by omega, by omega⟩, by omega, bif_t (by omega) ⟨by omega, by omega, by omega, by omega, by omega, by omega, h⟩⟩
  | m + 1, n, hn, h1 => by
    have hl := lgn_rg hd
    have hp := p2_le (k := n) 10 (by omega) 1024 rfl
    have hm := p2_mono (a := n + 2) (b := lgn d + 1) (by omega)
    have hs : bm_p2 (n + 2) = 4 * bm_p2 n := by rw [show n + 2 = n + 1 + 1 by omega, p2_s (by omega), p2_s (by omega)]; omega
    exact e_M_signOf_29 ⟨⟨by omega, by omega⟩, by omega, bif_f (by omega) ⟨by omega, m_signOf29 hd h m (n + 1) (by omega) (by omega)⟩⟩
theorem m_signOf {rg : Int → Int} {d : Int} (hd : 1 ≤ d ∧ d + 3 < 4096) (hr : ∀ i, 0 ≤ i → i < 4 → ι 107 0 (3 - i) = rg i) (h : K (sgn rg d) ι) : bC sc 251 [br 13 0, bi d] ι (bk1 K H) := by
  have hl := lgn_rg hd
  unfold sgn at h
  refine e_M_signOf_0 (e_M_signOf_2 (bif_f (by omega) ⟨by omega, by omega, ?_⟩))
  rw [hr 0 (by omega) (by omega)]
  refine bif_i (fun z => by rw [if_pos z] at h; exact h) (fun z => ⟨by omega, e_M_signOf_2 (bif_f (by omega) ⟨by omega, by omega, ?_⟩)⟩)
  rw [if_neg z] at h
  rw [show (0 : Int) + 1 = 1 by omega, hr 1 (by omega) (by omega)]
  refine bif_i (fun z1 => by rw [if_pos z1] at h; exact h) (fun z1 => ⟨by omega, e_M_signOf_2 (bif_f (by omega) ⟨by omega, by omega, ?_⟩)⟩)
  rw [if_neg z1] at h
  rw [show (1 : Int) + 1 = 2 by omega, hr 2 (by omega) (by omega)]
  refine bif_i (fun z2 => by rw [if_pos z2] at h; exact h) (fun z2 => ⟨by omega, e_M_signOf_2 (bif_f (by omega) ⟨by omega, by omega, ?_⟩)⟩)
  rw [if_neg z2] at h
  rw [show (2 : Int) + 1 = 3 by omega, hr 3 (by omega) (by omega)]
  refine bif_i (fun z3 => by rw [if_pos z3] at h; exact h) (fun z3 => ⟨by omega, e_M_signOf_2 (bif_t (by omega) ?_)⟩)
  rw [if_neg z3] at h
  exact m_signOf29 hd h (lgn d - 1).toNat 1 (by omega) (by omega)
end Signs
