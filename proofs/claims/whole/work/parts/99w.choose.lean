/-! pack: comp chooses -/
section Choose
variable {sc : bm_Sc} {ι : bm_S} {H : Nat × Int → bm_S → Prop} {T : Int → Int} {N : Int} {g c : Int → Int} {K : bm_S → Prop}
def CQ (ι : bm_S) (T : Int → Int) (N : Int) (g c : Int → Int) (q : Int) : Prop := ι 35 0 q = cf T N q ∧ ι 36 0 q = df T N q ∧ ι 37 0 q = wdM T N g c q ∧ ι 38 0 q = wdK T N g c q
theorem CQ.fr {ι ι' : bm_S} {q : Int} {P : Nat → Int → Int → Prop} (h : CQ ι T N g c q) (hF : Fr P ι ι') (hP : ¬ P 35 0 q ∧ ¬ P 36 0 q ∧ ¬ P 37 0 q ∧ ¬ P 38 0 q) : CQ ι' T N g c q := by
  unfold CQ
  rw [hF 35 0 q hP.1, hF 36 0 q hP.2.1, hF 37 0 q hP.2.2.1, hF 38 0 q hP.2.2.2]
  exact h
theorem s_cheap {p a b : Int} {C : Int → Int} (hp : 0 ≤ p ∧ p < 2000) (ha : ι 35 0 p = a) (hb : ι 37 0 p = b) (ha0 : a = 0 ∨ 4 ≤ a ∧ p + a ≤ 2000) (hb0 : b = 0 ∨ 4 ≤ b ∧ p + b ≤ 2000) (h1 : ι 62 0 (p + 1) = C (p + 1)) (h1r : 0 ≤ C (p + 1) ∧ C (p + 1) ≤ 18000) (hca : 0 < a → ι 62 0 (p + a) = C (p + a) ∧ 0 ≤ C (p + a) ∧ C (p + a) ≤ 18000) (hcb : 0 < b → ι 62 0 (p + b) = C (p + b) ∧ 0 ≤ C (p + b) ∧ C (p + b) ≤ 18000) (h : ∀ ι' : bm_S, ι' 61 0 p = w2 a b C p → ι' 62 0 p = c2 a b C p → Fr (fun t i j => (t = 61 ∨ t = 62) ∧ j = p) ι ι' → K ι') : bC sc 98 [br 9 0, bi p] ι (bk0 K H) := by
  refine e_P_takeCheapest_0 ?_
  rw [ha, hb, h1]
  have F1 : ∀ x y : Int, Fr (fun t i j => (t = 61 ∨ t = 62) ∧ j = p) ι (up (up ι 61 0 p x) 62 0 p y) := fun x y => ((Fr.refl _ _).u (by omega)).u (by omega)
  have F2 : ∀ x y x' y' : Int, Fr (fun t i j => (t = 61 ∨ t = 62) ∧ j = p) ι (up (up (up (up ι 61 0 p x) 62 0 p y) 61 0 p x') 62 0 p y') := fun x y x' y' => ((F1 x y).u (by omega)).u (by omega)
  have F3 : ∀ x y x' y' x'' y'' : Int, Fr (fun t i j => (t = 61 ∨ t = 62) ∧ j = p) ι (up (up (up (up (up (up ι 61 0 p x) 62 0 p y) 61 0 p x') 62 0 p y') 61 0 p x'') 62 0 p y'') := fun x y x' y' x'' y'' => ((F2 x y x' y').u (by omega)).u (by omega)
  by_cases za : 0 < a
  · obtain ⟨a1, a2, a3⟩ := hca za
    by_cases zb : 0 < b
    · obtain ⟨b1, b2, b3⟩ := hcb zb
      simp (disch := omega) only [up_s, up_k, up_j]
      rw [a1, b1]
      refine ⟨by omega, by omega, by omega, by omega, by omega, by omega, by omega, bif_f (by omega) ⟨by omega, by omega, by omega, by omega, bif_i (fun z1 => bif_f (by omega) ⟨by omega, by omega, by omega, by omega, bif_i (fun z2 => ?_) (fun z2 => ⟨by omega, by omega, by omega, by omega, by omega, ?_⟩)⟩) (fun z1 => ⟨by omega, by omega, by omega, by omega, by omega, bif_f (by omega) ⟨by omega, by omega, by omega, by omega, bif_i (fun z2 => ?_) (fun z2 => ⟨by omega, by omega, by omega, by omega, by omega, ?_⟩)⟩⟩)⟩⟩
      · have e : w2 a b C p = 0 := by unfold w2 x2; rw [if_pos za, if_pos zb, if_neg (by omega), if_neg (by omega)]
        have e2 : c2 a b C p = 9 + C (p + 1) := by unfold c2; rw [e, if_neg (by omega), if_neg (by omega)]
        exact h _ (by rw [e]; simp (disch := omega) only [up_s, up_k, up_j, up_i]) (by rw [e2]; simp (disch := omega) only [up_s, up_k, up_j, up_i]) (F1 _ _)
      · have e : w2 a b C p = 1 := by unfold w2 x2; rw [if_pos za, if_pos zb, if_pos (by omega)]
        have e2 : c2 a b C p = 24 + C (p + a) := by unfold c2 x2; rw [e, if_pos rfl, if_pos za]
        exact h _ (by rw [e]; simp (disch := omega) only [up_s, up_k, up_j, up_i]) (by rw [e2]; simp (disch := omega) only [up_s, up_k, up_j, up_i]) (F2 _ _ _ _)
      · have e : w2 a b C p = 2 := by unfold w2 x2; rw [if_pos za, if_pos zb, if_neg (by omega), if_pos (by omega)]
        have e2 : c2 a b C p = 24 + C (p + b) := by unfold c2 x2; rw [e, if_neg (by omega), if_pos rfl, if_pos zb]
        exact h _ (by rw [e]; simp (disch := omega) only [up_s, up_k, up_j, up_i]) (by rw [e2]; simp (disch := omega) only [up_s, up_k, up_j, up_i]) (F2 _ _ _ _)
      · have e : w2 a b C p = 1 := by unfold w2 x2; rw [if_pos za, if_pos zb, if_pos (by omega)]
        have e2 : c2 a b C p = 24 + C (p + a) := by unfold c2 x2; rw [e, if_pos rfl, if_pos za]
        exact h _ (by rw [e]; simp (disch := omega) only [up_s, up_k, up_j, up_i]) (by rw [e2]; simp (disch := omega) only [up_s, up_k, up_j, up_i]) (F3 _ _ _ _ _ _)
    · simp (disch := omega) only [up_s, up_k, up_j]
      rw [a1]
      refine ⟨by omega, by omega, by omega, by omega, by omega, by omega, by omega, bif_t (by omega) (bif_f (by omega) ⟨by omega, by omega, by omega, by omega, bif_i (fun z2 => ?_) (fun z2 => ⟨by omega, by omega, by omega, by omega, by omega, ?_⟩)⟩)⟩
      · have e : w2 a b C p = 0 := by unfold w2 x2; rw [if_pos za, if_neg zb, if_neg (by omega), if_neg (by omega)]
        have e2 : c2 a b C p = 9 + C (p + 1) := by unfold c2; rw [e, if_neg (by omega), if_neg (by omega)]
        exact h _ (by rw [e]; simp (disch := omega) only [up_s, up_k, up_j, up_i]) (by rw [e2]; simp (disch := omega) only [up_s, up_k, up_j, up_i]) (F1 _ _)
      · have e : w2 a b C p = 1 := by unfold w2 x2; rw [if_pos za, if_neg zb, if_pos (by omega)]
        have e2 : c2 a b C p = 24 + C (p + a) := by unfold c2 x2; rw [e, if_pos rfl, if_pos za]
        exact h _ (by rw [e]; simp (disch := omega) only [up_s, up_k, up_j, up_i]) (by rw [e2]; simp (disch := omega) only [up_s, up_k, up_j, up_i]) (F2 _ _ _ _)
  · by_cases zb : 0 < b
    · obtain ⟨b1, b2, b3⟩ := hcb zb
      simp (disch := omega) only [up_s, up_k, up_j]
      rw [b1]
      refine ⟨by omega, by omega, by omega, by omega, by omega, by omega, by omega, bif_f (by omega) ⟨by omega, by omega, by omega, by omega, bif_i (fun z1 => bif_t (by omega) ?_) (fun z1 => ⟨by omega, by omega, by omega, by omega, by omega, bif_t (by omega) ?_⟩)⟩⟩
      · have e : w2 a b C p = 0 := by unfold w2 x2; rw [if_neg za, if_pos zb, if_neg (by omega), if_neg (by omega)]
        have e2 : c2 a b C p = 9 + C (p + 1) := by unfold c2; rw [e, if_neg (by omega), if_neg (by omega)]
        exact h _ (by rw [e]; simp (disch := omega) only [up_s, up_k, up_j, up_i]) (by rw [e2]; simp (disch := omega) only [up_s, up_k, up_j, up_i]) (F1 _ _)
      · have e : w2 a b C p = 2 := by unfold w2 x2; rw [if_neg za, if_pos zb, if_neg (by omega), if_pos (by omega)]
        have e2 : c2 a b C p = 24 + C (p + b) := by unfold c2 x2; rw [e, if_neg (by omega), if_pos rfl, if_pos zb]
        exact h _ (by rw [e]; simp (disch := omega) only [up_s, up_k, up_j, up_i]) (by rw [e2]; simp (disch := omega) only [up_s, up_k, up_j, up_i]) (F2 _ _ _ _)
    · refine ⟨by omega, by omega, by omega, by omega, by omega, by omega, by omega, bif_t (by omega) (bif_t (by omega) ?_)⟩
      have e : w2 a b C p = 0 := by unfold w2 x2; rw [if_neg za, if_neg zb, if_neg (by omega), if_neg (by omega)]
      have e2 : c2 a b C p = 9 + C (p + 1) := by unfold c2; rw [e, if_neg (by omega), if_neg (by omega)]
      exact h _ (by rw [e]; simp (disch := omega) only [up_s, up_k, up_j, up_i]) (by rw [e2]; simp (disch := omega) only [up_s, up_k, up_j, up_i]) (F1 _ _)
abbrev fCh (t : Nat) (_ j : Int) : Prop := 35 ≤ t ∧ t ≤ 42 ∨ t = 6 ∧ (j = 10 ∨ j = 11) ∨ t = 61 ∨ t = 62
/-- comp: all costs -/
theorem s_choose86 {v1 v2 : bm_V} (hN : N ≤ 2000) : ∀ (m d : Nat) (ι : bm_S), (m : Int) + d = N → (∀ q, 0 ≤ q → q < N → CQ ι T N g c q) → (∀ q, (m : Int) ≤ q → q < N → ι 61 0 q = wy 2 (cf T N) (wdM T N g c) N q) → (∀ q, (m : Int) ≤ q → q ≤ N → ι 62 0 q = cC (cf T N) (wdM T N g c) N d q) → (∀ ι' : bm_S, (∀ q, 0 ≤ q → q < N → CQ ι' T N g c q ∧ ι' 61 0 q = wy 2 (cf T N) (wdM T N g c) N q) → Fr (fun t i j => t = 61 ∨ t = 62) ι ι' → K ι') → bW sc 96 86 [br 9 0, v1, v2, bi ((m : Int) - 1)] [] ι (bk0 K H)
  | 0, d, ι, hd, hQ, hW, hC, h => e_P_choose_86 (bif_t (by omega) (h ι (fun q a b => ⟨hQ q a b, hW q (by omega) b⟩) (Fr.refl _ _)))
  | m + 1, d, ι, hd, hQ, hW, hC, h => by
    have hab : AB (cf T N) (wdM T N g c) N := AB_of
    have hm := hab m (by omega) (by omega)
    have rg := cC_rg hab hN d (by omega)
    have hq := hQ m (by omega) (by omega)
    rw [show ((m + 1 : Nat) : Int) - 1 = m by omega]
    refine e_P_choose_86 (bif_f (by omega) (s_cheap (C := cC (cf T N) (wdM T N g c) N d) (by omega) hq.1 hq.2.2.1 (by omega) (by omega) (hC _ (by omega) (by omega)) (by have := rg (m + 1) (by omega) (by omega); omega) (fun z => ⟨hC _ (by omega) (by omega), by have := rg (m + cf T N m) (by omega) (by omega); omega⟩) (fun z => ⟨hC _ (by omega) (by omega), by have := rg (m + wdM T N g c m) (by omega) (by omega); omega⟩) (fun ι1 a1 a2 F1 => ⟨by omega, ?_⟩)))
    rw [show (m : Int) + (-1) = (m : Int) - 1 by omega]
    have hd1 : (N - (m : Int) - 1).toNat = d := by omega
    refine s_choose86 hN m (d + 1) ι1 (by omega) (fun q x y => (hQ q x y).fr F1 (by omega)) (fun q x y => ?_) (fun q x y => ?_) (fun ι2 z F2 => h ι2 z ((F1.wide fun t i j q => by omega).trans F2))
    · by_cases z : q = m
      · rw [z, a1]; unfold wy; rw [if_neg (by omega), hd1]
      · rw [F1 61 0 q (by omega)]; exact hW q (by omega) y
    · show _ = if q = N - ((d + 1 : Nat) : Int) then c2 (cf T N q) (wdM T N g c q) (cC (cf T N) (wdM T N g c) N d) q else cC (cf T N) (wdM T N g c) N d q
      by_cases z : q = m
      · rw [if_pos (by omega), z, a2]
      · rw [if_neg (by omega), F1 62 0 q (by omega)]; exact hC q (by omega) y
/-- comp knows the row, the words, the chains -/
def LK (ι : bm_S) (T : Int → Int) (N : Int) (g c : Int → Int) (kn : Nat) : Prop := ι 6 0 11 = N ∧ TCo ι T N ∧ GCo ι g c ∧ CH ι g c 1344 ∧ PH ι T N kn
theorem LK.look {ι ι' : bm_S} {p kn : Nat} (h : LK ι T N g c kn) (hF : Fr (fLk p) ι ι') (hP : PH ι' T N p) : LK ι' T N g c p := ⟨by rw [hF 6 0 11 (by omega)]; exact h.1, h.2.1.fr hF (fun j => by omega), h.2.2.1.fr hF (fun j => by omega), h.2.2.2.1.fr hF (fun j => by omega), hP⟩
theorem s_choose56 {v1 : bm_V} (hN : N ≤ 2000) (hG : GV g c) (hTr : ∀ k, 0 ≤ k → k < N → -128 ≤ T k ∧ T k < 128) : ∀ (m p kn : Nat) (ι : bm_S), (p : Int) + m = N → kn ≤ p → LK ι T N g c kn → (∀ q, 0 ≤ q → q < (p : Int) → CQ ι T N g c q) → (∀ ι' : bm_S, (∀ q, 0 ≤ q → q < N → CQ ι' T N g c q ∧ ι' 61 0 q = wy 2 (cf T N) (wdM T N g c) N q) → Fr fCh ι ι' → K ι') → bW sc 96 56 [br 9 0, v1, bi N, bi p] [] ι (bk0 K H)
  | 0, p, kn, ι, hm, hk, hL, hQ, h => by
    refine e_P_choose_56 (bif_t (by omega) ⟨by omega, by omega, ?_⟩)
    have F1 : Fr fCh ι (up ι 62 0 N 0) := (Fr.refl _ _).u (by omega)
    have e : N - 1 = ((N.toNat : Nat) : Int) - 1 := by omega
    rw [e]
    exact s_choose86 hN N.toNat 0 _ (by omega) (fun q x y => (hQ q x (by omega)).fr (P := fun t i j => t = 62) ((Fr.refl _ _).u rfl) (by omega)) (fun q x y => by omega) (fun q x y => by rw [show q = N by omega, up_s]; rfl) (fun ι2 z F2 => h ι2 z (F1.trans (F2.wide fun t i j q => by omega)))
  | m + 1, p, kn, ι, hm, hk, hL, hQ, h => by
    have ecf : cf T N p = cpM T N p := by unfold cf; rw [show ((p : Int)).toNat = p by omega]
    have edf : df T N p = cpD T N p := by unfold df; rw [show ((p : Int)).toNat = p by omega]
    refine e_P_choose_56 (bif_f (by omega) (s_look hN (by omega) hk hG hTr hL.1 hL.2.1 hL.2.2.1 hL.2.2.2.1 hL.2.2.2.2 (fun ι1 a5 a6 a7 a8 hP F1 => ⟨by omega, ?_⟩)))
    rw [show (p : Int) + 1 = ((p + 1 : Nat) : Int) by omega]
    refine s_choose56 hN hG hTr m (p + 1) p ι1 (by omega) (by omega) (hL.look F1 hP) (fun q x y => ?_) (fun ι2 z F2 => h ι2 z ((F1.wide fun t i j q => by omega).trans F2))
    by_cases z : q = p
    · rw [z]; exact ⟨by rw [ecf]; exact a5, by rw [edf]; exact a6, a7, a8⟩
    · exact (hQ q x (by omega)).fr F1 (by omega)
theorem s_longest {K : Int → bm_S → Prop} {p : Int} (hp : 0 ≤ p ∧ p < 2000) (h : K (w1 (ι 35 0 p) (ι 37 0 p)) ι) : bC sc 97 [br 9 0, bi p] ι (bk1 K H) := by
  unfold w1 at h
  refine e_P_longest_0 ⟨by omega, by omega, bif_i (fun z => bif_i (fun z1 => ?_) (fun z1 => bif_i (fun z2 => ?_) (fun z2 => ?_))) (fun z => bif_i (fun z2 => ?_) (fun z2 => ?_))⟩
  · rw [if_pos ⟨z, z1⟩] at h; exact h
  · rw [if_neg (by omega), if_pos z2] at h; exact h
  · rw [if_neg (by omega), if_neg z2] at h; exact h
  · rw [if_neg (by omega), if_pos z2] at h; exact h
  · rw [if_neg (by omega), if_neg z2] at h; exact h
theorem s_makesAt {K : Int → bm_S → Prop} {lv p : Int} (hp : 0 ≤ p ∧ p < 2000) (hQ : CQ ι T N g c p) (h61 : ι 61 0 p = wy lv (cf T N) (wdM T N g c) N p) (h : K (mk lv (cf T N) (wdM T N g c) N p) ι) : bC sc 99 [br 9 0, bi p] ι (bk1 K H) := by
  refine e_P_makesAt_0 ?_
  rw [h61, hQ.1, hQ.2.2.1]
  unfold mk at h
  exact ⟨by omega, bif_i (fun z => by rw [if_pos z] at h; exact h) (fun z => ⟨by omega, bif_i (fun z1 => ⟨by omega, by rw [if_neg z, if_pos z1] at h; exact h⟩) (fun z1 => ⟨by omega, by rw [if_neg z, if_neg z1] at h; exact h⟩)⟩)⟩
/-- the places that are reached -/
theorem rch_rg {f : Int → Int} (hN : 0 ≤ N) (hf : ∀ p, 0 ≤ p → p < N → 1 ≤ f p ∧ p + f p ≤ N) : ∀ i : Nat, 0 ≤ rch f N i ∧ rch f N i ≤ N
  | 0 => by show 0 ≤ (0 : Int) ∧ (0 : Int) ≤ N; omega
  | i + 1 => by
    have ih := rch_rg hN hf i
    show 0 ≤ (if rch f N i < N then rch f N i + f (rch f N i) else rch f N i) ∧ (if rch f N i < N then rch f N i + f (rch f N i) else rch f N i) ≤ N
    by_cases z : rch f N i < N
    · rw [if_pos z]; have := hf _ ih.1 z; omega
    · rw [if_neg z]; exact ih
theorem rch_lt {f : Int → Int} (hN : 0 ≤ N) (hf : ∀ p, 0 ≤ p → p < N → 1 ≤ f p ∧ p + f p ≤ N) {j : Nat} (hj : rch f N j < N) : ∀ d : Nat, rch f N j < rch f N (j + d + 1)
  | 0 => by
    have e : rch f N (j + 0 + 1) = rch f N j + f (rch f N j) := if_pos hj
    have := hf _ (rch_rg hN hf j).1 hj
    omega
  | d + 1 => by
    have ih := rch_lt hN hf hj d
    have e : rch f N (j + (d + 1) + 1) = if rch f N (j + (d + 1)) < N then rch f N (j + (d + 1)) + f (rch f N (j + (d + 1))) else rch f N (j + (d + 1)) := rfl
    rw [e]
    have ih2 : rch f N j < rch f N (j + (d + 1)) := ih
    by_cases z : rch f N (j + (d + 1)) < N
    · rw [if_pos z]; have := hf _ (rch_rg hN hf (j + (d + 1))).1 z; omega
    · rw [if_neg z]; exact ih2
/-- what comp has chosen at the places that are reached -/
def ChC (ι : bm_S) (T : Int → Int) (N : Int) (g c : Int → Int) (lv : Int) : Prop := ∀ i : Nat, rch (mk lv (cf T N) (wdM T N g c) N) N i < N → CQ ι T N g c (rch (mk lv (cf T N) (wdM T N g c) N) N i) ∧ ι 61 0 (rch (mk lv (cf T N) (wdM T N g c) N) N i) = wy lv (cf T N) (wdM T N g c) N (rch (mk lv (cf T N) (wdM T N g c) N) N i)
theorem mk_ab {lv : Int} (hN : N ≤ 2000) : ∀ p, 0 ≤ p → p < N → 1 ≤ mk lv (cf T N) (wdM T N g c) N p ∧ p + mk lv (cf T N) (wdM T N g c) N p ≤ N := fun p a b => mk_rg AB_of hN ⟨a, b⟩
theorem s_choose14 {v1 : bm_V} (hN : 0 ≤ N ∧ N ≤ 2000) (hG : GV g c) (hTr : ∀ k, 0 ≤ k → k < N → -128 ≤ T k ∧ T k < 128) {f : Int → Int} (hf : f = mk 1 (cf T N) (wdM T N g c) N) : ∀ (m i kn : Nat) (ι : bm_S), N - rch f N i ≤ m → (kn : Int) ≤ rch f N i → LK ι T N g c kn → (∀ j : Nat, j < i → rch f N j < N → CQ ι T N g c (rch f N j) ∧ ι 61 0 (rch f N j) = wy 1 (cf T N) (wdM T N g c) N (rch f N j)) → (∀ ι' : bm_S, ChC ι' T N g c 1 → Fr fCh ι ι' → K ι') → bW sc 96 14 [br 9 0, v1, bi N, bi (rch f N i)] [] ι (bk0 K H) := by
  have hmk : ∀ p, 0 ≤ p → p < N → 1 ≤ f p ∧ p + f p ≤ N := by rw [hf]; exact mk_ab hN.2
  intro m
  induction m with
  | zero =>
    intro i kn ι hm hk hL hQ h
    have r := rch_rg hN.1 hmk i
    refine e_P_choose_14 (bif_t (by omega) (h ι (fun j hj => ?_) (Fr.refl _ _)))
    rw [← hf] at hj ⊢
    by_cases z : j < i
    · exact hQ j z hj
    · exfalso
      by_cases z2 : j = i
      · rw [z2] at hj; omega
      · have mono : ∀ d : Nat, rch f N (i + d) = rch f N i := by
          intro d
          induction d with
          | zero => rfl
          | succ d ih => show (if rch f N (i + d) < N then rch f N (i + d) + f (rch f N (i + d)) else rch f N (i + d)) = _; rw [ih, if_neg (by omega)]
        have := mono (j - i)
        rw [show i + (j - i) = j by omega] at this
        omega
  | succ m ih =>
    intro i kn ι hm hk hL hQ h
    have r := rch_rg hN.1 hmk i
    by_cases z : rch f N i < N
    · obtain ⟨p, hp⟩ : ∃ p : Nat, (p : Int) = rch f N i := ⟨(rch f N i).toNat, by omega⟩
      have hs : rch f N (i + 1) = rch f N i + f (rch f N i) := if_pos z
      have hmi := hmk _ r.1 z
      rw [← hp] at z r hk hs hmi hm ⊢
      have ecf : cf T N p = cpM T N p := by unfold cf; rw [show ((p : Int)).toNat = p by omega]
      have edf : df T N p = cpD T N p := by unfold df; rw [show ((p : Int)).toNat = p by omega]
      refine e_P_choose_14 (bif_f (by omega) (s_look hN.2 z (by omega) hG hTr hL.1 hL.2.1 hL.2.2.1 hL.2.2.2.1 hL.2.2.2.2 (fun ι1 a5 a6 a7 a8 hP F1 => ?_)))
      have Q1 : CQ ι1 T N g c p := ⟨by rw [ecf]; exact a5, by rw [edf]; exact a6, a7, a8⟩
      refine s_longest (by omega) ⟨by omega, ?_⟩
      rw [Q1.1, Q1.2.2.1]
      have hw : w1 (cf T N p) (wdM T N g c p) = wy 1 (cf T N) (wdM T N g c) N p := (if_pos rfl).symm
      rw [hw]
      have F2 : Fr (fun t i j => t = 61 ∧ j = p) ι1 (up ι1 61 0 p (wy 1 (cf T N) (wdM T N g c) N p)) := (Fr.refl _ _).u (by omega)
      refine s_makesAt (lv := 1) (by omega) (Q1.fr F2 (by omega)) (by simp (disch := omega) only [up_s, up_k, up_j, up_i]) ⟨?_, ?_⟩
      · rw [← hf]; omega
      · rw [← hf, show (p : Int) + max (f p) 1 = rch f N (i + 1) by omega]
        have LK1 := hL.look F1 hP
        refine ih (i + 1) p _ (by omega) (by omega) ⟨by rw [F2 6 0 11 (by omega)]; exact LK1.1, LK1.2.1.fr F2 (fun j => by omega), LK1.2.2.1.fr F2 (fun j => by omega), LK1.2.2.2.1.fr F2 (fun j => by omega), ⟨by simp (disch := omega) only [up_s, up_k, up_j, up_i]; exact hP.1, fun k x y => by simp (disch := omega) only [up_s, up_k, up_j, up_i]; exact hP.2.1 k x y, fun q x => by simp (disch := omega) only [up_s, up_k, up_j, up_i]; exact hP.2.2 q x⟩⟩ (fun j hj hjN => ?_) (fun ι2 y F3 => h ι2 y (((F1.wide fun t i j q => by omega).trans (F2.wide fun t i j q => by omega)).trans F3))
        by_cases zj : j = i
        · rw [zj, ← hp]
          exact ⟨Q1.fr F2 (by omega), by simp (disch := omega) only [up_s, up_k, up_j, up_i]⟩
        · have lt := rch_lt hN.1 hmk hjN (i - j - 1)
          rw [show j + (i - j - 1) + 1 = i by omega, ← hp] at lt
          have q := hQ j (by omega) hjN
          refine ⟨(q.1.fr F1 (by omega)).fr F2 (by omega), ?_⟩
          rw [F2 61 0 _ (by omega), F1 61 0 _ (by omega)]
          exact q.2
    · exact ih i kn ι (by omega) hk hL hQ h
theorem s_choose {lv : Int} (hlv : lv = 1 ∨ lv = 2) (hN : 0 ≤ N ∧ N ≤ 2000) (hG : GV g c) (hTr : ∀ k, 0 ≤ k → k < N → -128 ≤ T k ∧ T k < 128) (hT : TCo ι T N) (hG1 : GCo ι g c) (h : ∀ ι' : bm_S, ChC ι' T N g c lv → Fr fCh ι ι' → K ι') : bC sc 96 [br 9 0, bi lv, bi N] ι (bk0 K H) := by
  refine e_P_choose_0 (s_start (T := T) hG hN.2 hT.1 hG1 (fun ι1 a11 hP hC F1 => ?_))
  have LK1 : LK ι1 T N g c 0 := ⟨a11, hT.fr F1 (fun j => by omega), hG1.fr F1 (fun j => by omega), hC, hP⟩
  refine bif_i (fun e => ?_) (fun e => ?_)
  · rw [e] at h ⊢
    exact s_choose14 hN hG hTr (f := mk 1 (cf T N) (wdM T N g c) N) rfl N.toNat 0 0 ι1 (by show N - (0 : Int) ≤ _; omega) (by show (0 : Int) ≤ 0; omega) LK1 (fun j hj => by omega) (fun ι2 y F2 => h ι2 y ((F1.wide fun t i j q => by omega).trans F2))
  · have e2 : lv = 2 := by omega
    rw [e2] at h ⊢
    exact s_choose56 hN.2 hG hTr N.toNat 0 0 ι1 (by omega) (by omega) LK1 (fun q x y => by omega) (fun ι2 y F2 => h ι2 (fun i hi => y _ (rch_rg hN.1 (mk_ab hN.2) i).1 hi) ((F1.wide fun t i j q => by omega).trans F2))
end Choose
