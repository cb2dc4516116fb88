/-! Arrays.fill -/
section Fills
variable {sc : bm_Sc} {H : Nat × Int → bm_S → Prop}
theorem s_fill5_21 {n : Int} {K : bm_S → Prop} {x : Int} : ∀ (m : Nat) (k : Int) (ι : bm_S), k = 16 - m → 0 ≤ k → (∀ ι', (∀ j, k ≤ j → j < 16 → ι' 21 n j = x) → (∀ j, j < k → ι' 21 n j = ι 21 n j) → Fr (fun t i _ => t = 21 ∧ i = n) ι ι' → K ι') → bW sc 260 5 [br 21 n, bi x, bi k, bi (16)] [] ι (bk0 K H)
  | 0, k, ι, hk, h0, h => e_A_fill_21_5 (bif_t (by omega) (h ι (fun j j0 j1 => by omega) (fun j _ => rfl) (Fr.refl _ _)))
  | m + 1, k, ι, hk, h0, h => e_A_fill_21_5 (bif_f (by omega) ⟨by omega, by omega, s_fill5_21 m (k + 1) _ (by omega) (by omega) (fun ι' g1 g2 g3 => h ι' (fun j j0 j1 => by
      by_cases q : j = k
      · rw [g2 j (by omega), q, up_s]
      · exact g1 j (by omega) j1) (fun j j0 => by rw [g2 j (by omega), up_j (by omega)]) (((Fr.refl _ _).u ⟨rfl, rfl⟩).trans g3))⟩)
theorem s_fill_21 {n : Int} {K : bm_S → Prop} {x : Int} {ι : bm_S} (h : ∀ ι', (∀ j, 0 ≤ j → j < 16 → ι' 21 n j = x) → Fr (fun t i _ => t = 21 ∧ i = n) ι ι' → K ι') : bC sc 260 [br 21 n, bi x] ι (bk0 K H) :=
  e_A_fill_21_0 (s_fill5_21 (16 : Int).toNat 0 ι (by omega) (by omega) (fun ι' g1 _ g3 => h ι' g1 g3))
theorem s_fill5_23 {K : bm_S → Prop} {x : Int} : ∀ (m : Nat) (k : Int) (ι : bm_S), k = 704 - m → 0 ≤ k → (∀ ι', (∀ j, k ≤ j → j < 704 → ι' 23 0 j = x) → (∀ j, j < k → ι' 23 0 j = ι 23 0 j) → Fr (fun t i _ => t = 23 ∧ i = 0) ι ι' → K ι') → bW sc 260 5 [br 23 0, bi x, bi k, bi (704)] [] ι (bk0 K H)
  | 0, k, ι, hk, h0, h => e_A_fill_23_5 (bif_t (by omega) (h ι (fun j j0 j1 => by omega) (fun j _ => rfl) (Fr.refl _ _)))
  | m + 1, k, ι, hk, h0, h => e_A_fill_23_5 (bif_f (by omega) ⟨by omega, by omega, s_fill5_23 m (k + 1) _ (by omega) (by omega) (fun ι' g1 g2 g3 => h ι' (fun j j0 j1 => by
      by_cases q : j = k
      · rw [g2 j (by omega), q, up_s]
      · exact g1 j (by omega) j1) (fun j j0 => by rw [g2 j (by omega), up_j (by omega)]) (((Fr.refl _ _).u ⟨rfl, rfl⟩).trans g3))⟩)
theorem s_fill_23 {K : bm_S → Prop} {x : Int} {ι : bm_S} (h : ∀ ι', (∀ j, 0 ≤ j → j < 704 → ι' 23 0 j = x) → Fr (fun t i _ => t = 23 ∧ i = 0) ι ι' → K ι') : bC sc 260 [br 23 0, bi x] ι (bk0 K H) :=
  e_A_fill_23_0 (s_fill5_23 (704 : Int).toNat 0 ι (by omega) (by omega) (fun ι' g1 _ g3 => h ι' g1 g3))
theorem s_fill5_24 {K : bm_S → Prop} {x : Int} : ∀ (m : Nat) (k : Int) (ι : bm_S), k = 18 - m → 0 ≤ k → (∀ ι', (∀ j, k ≤ j → j < 18 → ι' 24 0 j = x) → (∀ j, j < k → ι' 24 0 j = ι 24 0 j) → Fr (fun t i _ => t = 24 ∧ i = 0) ι ι' → K ι') → bW sc 260 5 [br 24 0, bi x, bi k, bi (18)] [] ι (bk0 K H)
  | 0, k, ι, hk, h0, h => e_A_fill_24_5 (bif_t (by omega) (h ι (fun j j0 j1 => by omega) (fun j _ => rfl) (Fr.refl _ _)))
  | m + 1, k, ι, hk, h0, h => e_A_fill_24_5 (bif_f (by omega) ⟨by omega, by omega, s_fill5_24 m (k + 1) _ (by omega) (by omega) (fun ι' g1 g2 g3 => h ι' (fun j j0 j1 => by
      by_cases q : j = k
      · rw [g2 j (by omega), q, up_s]
      · exact g1 j (by omega) j1) (fun j j0 => by rw [g2 j (by omega), up_j (by omega)]) (((Fr.refl _ _).u ⟨rfl, rfl⟩).trans g3))⟩)
theorem s_fill_24 {K : bm_S → Prop} {x : Int} {ι : bm_S} (h : ∀ ι', (∀ j, 0 ≤ j → j < 18 → ι' 24 0 j = x) → Fr (fun t i _ => t = 24 ∧ i = 0) ι ι' → K ι') : bC sc 260 [br 24 0, bi x] ι (bk0 K H) :=
  e_A_fill_24_0 (s_fill5_24 (18 : Int).toNat 0 ι (by omega) (by omega) (fun ι' g1 _ g3 => h ι' g1 g3))
theorem s_fill5_26 {n : Int} {K : bm_S → Prop} {x : Int} (hL : 0 ≤ bm_L 26 n ∧ bm_L 26 n ≤ 20000) : ∀ (m : Nat) (k : Int) (ι : bm_S), k = bm_L 26 n - m → 0 ≤ k → (∀ ι', (∀ j, k ≤ j → j < bm_L 26 n → ι' 26 n j = x) → (∀ j, j < k → ι' 26 n j = ι 26 n j) → Fr (fun t i _ => t = 26 ∧ i = n) ι ι' → K ι') → bW sc 260 5 [br 26 n, bi x, bi k, bi (bm_L 26 n)] [] ι (bk0 K H)
  | 0, k, ι, hk, h0, h => e_A_fill_26_5 (bif_t (by omega) (h ι (fun j j0 j1 => by omega) (fun j _ => rfl) (Fr.refl _ _)))
  | m + 1, k, ι, hk, h0, h => e_A_fill_26_5 (bif_f (by omega) ⟨by omega, by omega, s_fill5_26 hL m (k + 1) _ (by omega) (by omega) (fun ι' g1 g2 g3 => h ι' (fun j j0 j1 => by
      by_cases q : j = k
      · rw [g2 j (by omega), q, up_s]
      · exact g1 j (by omega) j1) (fun j j0 => by rw [g2 j (by omega), up_j (by omega)]) (((Fr.refl _ _).u ⟨rfl, rfl⟩).trans g3))⟩)
theorem s_fill_26 {n : Int} {K : bm_S → Prop} {x : Int} {ι : bm_S} (hL : 0 ≤ bm_L 26 n ∧ bm_L 26 n ≤ 20000) (h : ∀ ι', (∀ j, 0 ≤ j → j < bm_L 26 n → ι' 26 n j = x) → Fr (fun t i _ => t = 26 ∧ i = n) ι ι' → K ι') : bC sc 260 [br 26 n, bi x] ι (bk0 K H) :=
  e_A_fill_26_0 (s_fill5_26 hL (bm_L 26 n : Int).toNat 0 ι (by omega) (by omega) (fun ι' g1 _ g3 => h ι' g1 g3))
theorem s_fill5_27 {n : Int} {K : bm_S → Prop} {x : Int} (hL : 0 ≤ bm_L 27 n ∧ bm_L 27 n ≤ 20000) : ∀ (m : Nat) (k : Int) (ι : bm_S), k = bm_L 27 n - m → 0 ≤ k → (∀ ι', (∀ j, k ≤ j → j < bm_L 27 n → ι' 27 n j = x) → (∀ j, j < k → ι' 27 n j = ι 27 n j) → Fr (fun t i _ => t = 27 ∧ i = n) ι ι' → K ι') → bW sc 260 5 [br 27 n, bi x, bi k, bi (bm_L 27 n)] [] ι (bk0 K H)
  | 0, k, ι, hk, h0, h => e_A_fill_27_5 (bif_t (by omega) (h ι (fun j j0 j1 => by omega) (fun j _ => rfl) (Fr.refl _ _)))
  | m + 1, k, ι, hk, h0, h => e_A_fill_27_5 (bif_f (by omega) ⟨by omega, by omega, s_fill5_27 hL m (k + 1) _ (by omega) (by omega) (fun ι' g1 g2 g3 => h ι' (fun j j0 j1 => by
      by_cases q : j = k
      · rw [g2 j (by omega), q, up_s]
      · exact g1 j (by omega) j1) (fun j j0 => by rw [g2 j (by omega), up_j (by omega)]) (((Fr.refl _ _).u ⟨rfl, rfl⟩).trans g3))⟩)
theorem s_fill_27 {n : Int} {K : bm_S → Prop} {x : Int} {ι : bm_S} (hL : 0 ≤ bm_L 27 n ∧ bm_L 27 n ≤ 20000) (h : ∀ ι', (∀ j, 0 ≤ j → j < bm_L 27 n → ι' 27 n j = x) → Fr (fun t i _ => t = 27 ∧ i = n) ι ι' → K ι') : bC sc 260 [br 27 n, bi x] ι (bk0 K H) :=
  e_A_fill_27_0 (s_fill5_27 hL (bm_L 27 n : Int).toNat 0 ι (by omega) (by omega) (fun ι' g1 _ g3 => h ι' g1 g3))
theorem s_fill5_39 {K : bm_S → Prop} {x : Int} : ∀ (m : Nat) (k : Int) (ι : bm_S), k = 1024 - m → 0 ≤ k → (∀ ι', (∀ j, k ≤ j → j < 1024 → ι' 39 0 j = x) → (∀ j, j < k → ι' 39 0 j = ι 39 0 j) → Fr (fun t i _ => t = 39 ∧ i = 0) ι ι' → K ι') → bW sc 260 5 [br 39 0, bi x, bi k, bi (1024)] [] ι (bk0 K H)
  | 0, k, ι, hk, h0, h => e_A_fill_39_5 (bif_t (by omega) (h ι (fun j j0 j1 => by omega) (fun j _ => rfl) (Fr.refl _ _)))
  | m + 1, k, ι, hk, h0, h => e_A_fill_39_5 (bif_f (by omega) ⟨by omega, by omega, s_fill5_39 m (k + 1) _ (by omega) (by omega) (fun ι' g1 g2 g3 => h ι' (fun j j0 j1 => by
      by_cases q : j = k
      · rw [g2 j (by omega), q, up_s]
      · exact g1 j (by omega) j1) (fun j j0 => by rw [g2 j (by omega), up_j (by omega)]) (((Fr.refl _ _).u ⟨rfl, rfl⟩).trans g3))⟩)
theorem s_fill_39 {K : bm_S → Prop} {x : Int} {ι : bm_S} (h : ∀ ι', (∀ j, 0 ≤ j → j < 1024 → ι' 39 0 j = x) → Fr (fun t i _ => t = 39 ∧ i = 0) ι ι' → K ι') : bC sc 260 [br 39 0, bi x] ι (bk0 K H) :=
  e_A_fill_39_0 (s_fill5_39 (1024 : Int).toNat 0 ι (by omega) (by omega) (fun ι' g1 _ g3 => h ι' g1 g3))
theorem s_fill5_41 {K : bm_S → Prop} {x : Int} : ∀ (m : Nat) (k : Int) (ι : bm_S), k = 256 - m → 0 ≤ k → (∀ ι', (∀ j, k ≤ j → j < 256 → ι' 41 0 j = x) → (∀ j, j < k → ι' 41 0 j = ι 41 0 j) → Fr (fun t i _ => t = 41 ∧ i = 0) ι ι' → K ι') → bW sc 260 5 [br 41 0, bi x, bi k, bi (256)] [] ι (bk0 K H)
  | 0, k, ι, hk, h0, h => e_A_fill_41_5 (bif_t (by omega) (h ι (fun j j0 j1 => by omega) (fun j _ => rfl) (Fr.refl _ _)))
  | m + 1, k, ι, hk, h0, h => e_A_fill_41_5 (bif_f (by omega) ⟨by omega, by omega, s_fill5_41 m (k + 1) _ (by omega) (by omega) (fun ι' g1 g2 g3 => h ι' (fun j j0 j1 => by
      by_cases q : j = k
      · rw [g2 j (by omega), q, up_s]
      · exact g1 j (by omega) j1) (fun j j0 => by rw [g2 j (by omega), up_j (by omega)]) (((Fr.refl _ _).u ⟨rfl, rfl⟩).trans g3))⟩)
theorem s_fill_41 {K : bm_S → Prop} {x : Int} {ι : bm_S} (h : ∀ ι', (∀ j, 0 ≤ j → j < 256 → ι' 41 0 j = x) → Fr (fun t i _ => t = 41 ∧ i = 0) ι ι' → K ι') : bC sc 260 [br 41 0, bi x] ι (bk0 K H) :=
  e_A_fill_41_0 (s_fill5_41 (256 : Int).toNat 0 ι (by omega) (by omega) (fun ι' g1 _ g3 => h ι' g1 g3))
theorem s_fill5_46 {n : Int} {K : bm_S → Prop} {x : Int} : ∀ (m : Nat) (k : Int) (ι : bm_S), k = 768 - m → 0 ≤ k → (∀ ι', (∀ j, k ≤ j → j < 768 → ι' 46 n j = x) → (∀ j, j < k → ι' 46 n j = ι 46 n j) → Fr (fun t i _ => t = 46 ∧ i = n) ι ι' → K ι') → bW sc 260 5 [br 46 n, bi x, bi k, bi (768)] [] ι (bk0 K H)
  | 0, k, ι, hk, h0, h => e_A_fill_46_5 (bif_t (by omega) (h ι (fun j j0 j1 => by omega) (fun j _ => rfl) (Fr.refl _ _)))
  | m + 1, k, ι, hk, h0, h => e_A_fill_46_5 (bif_f (by omega) ⟨by omega, by omega, s_fill5_46 m (k + 1) _ (by omega) (by omega) (fun ι' g1 g2 g3 => h ι' (fun j j0 j1 => by
      by_cases q : j = k
      · rw [g2 j (by omega), q, up_s]
      · exact g1 j (by omega) j1) (fun j j0 => by rw [g2 j (by omega), up_j (by omega)]) (((Fr.refl _ _).u ⟨rfl, rfl⟩).trans g3))⟩)
theorem s_fill_46 {n : Int} {K : bm_S → Prop} {x : Int} {ι : bm_S} (h : ∀ ι', (∀ j, 0 ≤ j → j < 768 → ι' 46 n j = x) → Fr (fun t i _ => t = 46 ∧ i = n) ι ι' → K ι') : bC sc 260 [br 46 n, bi x] ι (bk0 K H) :=
  e_A_fill_46_0 (s_fill5_46 (768 : Int).toNat 0 ι (by omega) (by omega) (fun ι' g1 _ g3 => h ι' g1 g3))
theorem s_fill5_47 {n : Int} {K : bm_S → Prop} {x : Int} : ∀ (m : Nat) (k : Int) (ι : bm_S), k = 48 - m → 0 ≤ k → (∀ ι', (∀ j, k ≤ j → j < 48 → ι' 47 n j = x) → (∀ j, j < k → ι' 47 n j = ι 47 n j) → Fr (fun t i _ => t = 47 ∧ i = n) ι ι' → K ι') → bW sc 260 5 [br 47 n, bi x, bi k, bi (48)] [] ι (bk0 K H)
  | 0, k, ι, hk, h0, h => e_A_fill_47_5 (bif_t (by omega) (h ι (fun j j0 j1 => by omega) (fun j _ => rfl) (Fr.refl _ _)))
  | m + 1, k, ι, hk, h0, h => e_A_fill_47_5 (bif_f (by omega) ⟨by omega, by omega, s_fill5_47 m (k + 1) _ (by omega) (by omega) (fun ι' g1 g2 g3 => h ι' (fun j j0 j1 => by
      by_cases q : j = k
      · rw [g2 j (by omega), q, up_s]
      · exact g1 j (by omega) j1) (fun j j0 => by rw [g2 j (by omega), up_j (by omega)]) (((Fr.refl _ _).u ⟨rfl, rfl⟩).trans g3))⟩)
theorem s_fill_47 {n : Int} {K : bm_S → Prop} {x : Int} {ι : bm_S} (h : ∀ ι', (∀ j, 0 ≤ j → j < 48 → ι' 47 n j = x) → Fr (fun t i _ => t = 47 ∧ i = n) ι ι' → K ι') : bC sc 260 [br 47 n, bi x] ι (bk0 K H) :=
  e_A_fill_47_0 (s_fill5_47 (48 : Int).toNat 0 ι (by omega) (by omega) (fun ι' g1 _ g3 => h ι' g1 g3))
theorem s_fill5_65 {K : bm_S → Prop} {x : Int} : ∀ (m : Nat) (k : Int) (ι : bm_S), k = 11 - m → 0 ≤ k → (∀ ι', (∀ j, k ≤ j → j < 11 → ι' 65 0 j = x) → (∀ j, j < k → ι' 65 0 j = ι 65 0 j) → Fr (fun t i _ => t = 65 ∧ i = 0) ι ι' → K ι') → bW sc 260 5 [br 65 0, bi x, bi k, bi (11)] [] ι (bk0 K H)
  | 0, k, ι, hk, h0, h => e_A_fill_65_5 (bif_t (by omega) (h ι (fun j j0 j1 => by omega) (fun j _ => rfl) (Fr.refl _ _)))
  | m + 1, k, ι, hk, h0, h => e_A_fill_65_5 (bif_f (by omega) ⟨by omega, by omega, s_fill5_65 m (k + 1) _ (by omega) (by omega) (fun ι' g1 g2 g3 => h ι' (fun j j0 j1 => by
      by_cases q : j = k
      · rw [g2 j (by omega), q, up_s]
      · exact g1 j (by omega) j1) (fun j j0 => by rw [g2 j (by omega), up_j (by omega)]) (((Fr.refl _ _).u ⟨rfl, rfl⟩).trans g3))⟩)
theorem s_fill_65 {K : bm_S → Prop} {x : Int} {ι : bm_S} (h : ∀ ι', (∀ j, 0 ≤ j → j < 11 → ι' 65 0 j = x) → Fr (fun t i _ => t = 65 ∧ i = 0) ι ι' → K ι') : bC sc 260 [br 65 0, bi x] ι (bk0 K H) :=
  e_A_fill_65_0 (s_fill5_65 (11 : Int).toNat 0 ι (by omega) (by omega) (fun ι' g1 _ g3 => h ι' g1 g3))
end Fills
