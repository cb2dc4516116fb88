/-! pack: the chains of cores are laid -/
section Start
variable {sc : bm_Sc} {ι : bm_S} {H : Nat × Int → bm_S → Prop} {T : Int → Int} {N : Int} {g c : Int → Int} {K : bm_S → Prop}
theorem lp_skip (hv : Int → Int) (h : Int) (n : Nat) : ∀ m : Nat, (∀ q : Nat, n ≤ q → q < n + m → hv q ≠ h) → lp hv h (n + m) = lp hv h n
  | 0, _ => rfl
  | m + 1, hq => by
    have e : lp hv h (n + (m + 1)) = lp hv h (n + m) := if_neg (hq (n + m) (by omega) (by omega))
    rw [e]
    exact lp_skip hv h n m (fun q a b => hq q a (by omega))
theorem CH.skip {m d : Nat} (h : CH ι g c m) (hn : ∀ q : Nat, m ≤ q → q < m + d → ¬ cval c q) : CH ι g c (m + d) := by
  refine ⟨fun k x y => ?_, fun q x y => ?_⟩
  · rw [h.1 k x y, lp_skip (hc g c) k m d (fun q a b => ?_)]
    have e : hc g c q = -1 := if_neg (hn q a b)
    omega
  · by_cases z : q < m
    · exact h.2 q z y
    · exact absurd y (hn q (by omega) x)
abbrev fSt (t : Nat) (_ j : Int) : Prop := t = 6 ∧ (j = 10 ∨ j = 11) ∨ t = 39 ∨ t = 41 ∨ t = 42
theorem s_start62 {Q : bm_O → bm_S → Prop} {n w : Int} (hG : GV g c) (hn : 4 ≤ n ∧ n ≤ 10) (hw : 0 ≤ w ∧ w < c n) : ∀ (d : Nat) (how : Int) (m : Nat) (v4 v5 : bm_V) (ι : bm_S), how = 6 - d → 0 ≤ how → (m : Int) = ((n - 4) * 32 + w) * 6 + how → GCo ι g c → CH ι g c m → (∀ (ι' : bm_S) (v3 v4 v5 : bm_V), CH ι' g c (m + d) → Fr fSt ι ι' → (∀ j, ι' 6 0 j = ι 6 0 j) → (∀ j, ι' 39 0 j = ι 39 0 j) → bW sc 52 48 [br 6 0, bi n, bi (w + 1), v3, v4, v5] [] ι' Q) → bW sc 52 62 [br 6 0, bi n, bi w, bi how, v4, v5] [] ι Q
  | 0, how, m, v4, v5, ι, hh, h0, hm, hG1, hC, h => e_F_start_62 (bif_t (by omega) ⟨by have := hG.2 n hn.1 hn.2; omega, h ι _ _ _ hC (Fr.refl _ _) (fun _ => rfl) (fun _ => rfl)⟩)
  | d + 1, how, m, v4, v5, ι, hh, h0, hm, hG1, hC, h => by
    have h32 := hG.2 n hn.1 hn.2
    have e1 : 4 + (m : Int) / 6 / 32 = n := by omega
    have e2 : (m : Int) / 6 % 32 = w := by omega
    have e3 : (m : Int) % 6 = how := by omega
    have em : ((n - 4) * 32 + w) * 6 + how = m := by omega
    have ehc : hc g c m = (33 * (cby g n w how 0 % 256) + cby g n w how 1 % 256) % 256 := by
      unfold hc hcb
      rw [e1, e2, e3, if_pos hw.2]
    rw [show how = how from rfl]
    refine e_F_start_62 (bif_f (by omega) ⟨by omega, by omega, by omega, by omega, by omega, ?_⟩)
    rw [em]
    refine s_core hG hG1 hn ⟨hw.1, by omega⟩ (by omega) (by omega) h0 (s_core hG hG1 hn ⟨hw.1, by omega⟩ (by omega) (by omega) h0 (e_F_pairHash_0 ⟨by omega, by omega, ⟨by omega, by omega, by omega, by omega, ?_⟩⟩))
    rw [← ehc]
    have hhc : 0 ≤ hc g c m ∧ hc g c m < 256 := by rw [ehc]; omega
    rw [hC.1 _ hhc.1 hhc.2]
    have F1 : Fr fSt ι (up (up ι 42 0 m (lp (hc g c) (hc g c m) m)) 41 0 (hc g c m) m) := ((Fr.refl _ _).u (by omega)).u (by omega)
    refine s_start62 hG hn hw d (how + 1) (m + 1) _ _ _ (by omega) (by omega) (by omega) (hG1.fr F1 (fun j => by omega)) ⟨fun k x y => ?_, fun q x y => ?_⟩ (fun ι' v3 v4 v5 z F2 z6 z39 => h ι' v3 v4 v5 (by rw [show m + (d + 1) = m + 1 + d by omega]; exact z) (F1.trans F2) (fun j => by rw [z6 j]; simp (disch := omega) only [up_s, up_k, up_j, up_i]) (fun j => by rw [z39 j]; simp (disch := omega) only [up_s, up_k, up_j, up_i]))
    · rw [up_at]
      show _ = if hc g c m = k then (m : Int) else lp (hc g c) k m
      by_cases z : k = hc g c m
      · rw [if_pos z, if_pos z.symm]
      · rw [if_neg z, if_neg (fun w => z w.symm), up_k (by decide)]; exact hC.1 k x y
    · rw [up_k (by decide), up_at]
      by_cases z : q = m
      · rw [if_pos (by omega), z]
      · rw [if_neg (by omega)]; exact hC.2 q (by omega) y
theorem s_start48 {Q : bm_O → bm_S → Prop} {n : Int} (hG : GV g c) (hn : 4 ≤ n ∧ n ≤ 10) : ∀ (d : Nat) (w : Int) (m : Nat) (v3 v4 v5 : bm_V) (ι : bm_S), w = c n - d → 0 ≤ w → (m : Int) = ((n - 4) * 32 + w) * 6 → GCo ι g c → CH ι g c m → (∀ (ι' : bm_S) (m' : Nat) (v2 v3 v4 v5 : bm_V), (m' : Int) = (n - 3) * 192 → CH ι' g c m' → Fr fSt ι ι' → (∀ j, ι' 6 0 j = ι 6 0 j) → (∀ j, ι' 39 0 j = ι 39 0 j) → bW sc 52 40 [br 6 0, bi (n + 1), v2, v3, v4, v5] [] ι' Q) → bW sc 52 48 [br 6 0, bi n, bi w, v3, v4, v5] [] ι Q
  | 0, w, m, v3, v4, v5, ι, hw, h0, hm, hG1, hC, h => by
    have h32 := hG.2 n hn.1 hn.2
    refine e_F_start_48 (s_manyOf1 hn ?_)
    rw [hG1.2 n hn.1 hn.2]
    obtain ⟨e, he⟩ : ∃ e : Nat, (m : Int) + e = (n - 3) * 192 := ⟨((n - 3) * 192 - m).toNat, by omega⟩
    refine bif_t (by omega) ⟨by omega, h ι (m + e) _ _ _ _ (by omega) (hC.skip (fun q a b z => ?_)) (Fr.refl _ _) (fun _ => rfl) (fun _ => rfl)⟩
    unfold cval at z
    rw [show 4 + (q : Int) / 6 / 32 = n by omega] at z
    omega
  | d + 1, w, m, v3, v4, v5, ι, hw, h0, hm, hG1, hC, h => by
    have h32 := hG.2 n hn.1 hn.2
    refine e_F_start_48 (s_manyOf1 hn ?_)
    rw [hG1.2 n hn.1 hn.2]
    refine bif_f (by omega) (s_start62 hG hn ⟨h0, by omega⟩ 6 0 m _ _ ι (by omega) (by omega) (by omega) hG1 hC (fun ι1 v3 v4 v5 z F1 z6 z39 => ?_))
    exact s_start48 hG hn d (w + 1) (m + 6) v3 v4 v5 ι1 (by omega) (by omega) (by omega) (hG1.fr F1 (fun j => by omega)) z (fun ι2 m' v2 v3 v4 v5 e y F2 y6 y39 => h ι2 m' v2 v3 v4 v5 e y (F1.trans F2) (fun j => (y6 j).trans (z6 j)) (fun j => (y39 j).trans (z39 j)))
theorem s_start40 (hG : GV g c) : ∀ (d : Nat) (n : Int) (m : Nat) (v2 v3 v4 v5 : bm_V) (ι : bm_S), n = 11 - d → 4 ≤ n → (m : Int) = (n - 4) * 192 → GCo ι g c → CH ι g c m → (∀ ι' : bm_S, CH ι' g c 1344 → Fr fSt ι ι' → (∀ j, ι' 6 0 j = ι 6 0 j) → (∀ j, ι' 39 0 j = ι 39 0 j) → K ι') → bW sc 52 40 [br 6 0, bi n, v2, v3, v4, v5] [] ι (bk0 K H)
  | 0, n, m, v2, v3, v4, v5, ι, hn, h0, hm, hG1, hC, h => by
    have e : m = 1344 := by omega
    rw [e] at hC
    exact e_F_start_40 (bif_t (by omega) (h ι hC (Fr.refl _ _) (fun _ => rfl) (fun _ => rfl)))
  | d + 1, n, m, v2, v3, v4, v5, ι, hn, h0, hm, hG1, hC, h => by
    have h32 := hG.2 n h0 (by omega)
    refine e_F_start_40 (bif_f (by omega) (s_start48 hG ⟨h0, by omega⟩ (c n).toNat 0 m _ _ _ ι (by omega) (by omega) (by omega) hG1 hC (fun ι1 m' v2 v3 v4 v5 e z F1 z6 z39 => ?_)))
    exact s_start40 hG d (n + 1) m' v2 v3 v4 v5 ι1 (by omega) (by omega) (by omega) (hG1.fr F1 (fun j => by omega)) z (fun ι2 y F2 y6 y39 => h ι2 y (F1.trans F2) (fun j => (y6 j).trans (z6 j)) (fun j => (y39 j).trans (z39 j)))
theorem s_start (hG : GV g c) (hN : N ≤ 2000) (h2 : ι 2 0 1 = N) (hG1 : GCo ι g c) (h : ∀ ι' : bm_S, ι' 6 0 11 = N → PH ι' T N 0 → CH ι' g c 1344 → Fr fSt ι ι' → K ι') : bC sc 52 [br 6 0] ι (bk0 K H) := by
  refine e_F_start_0 ?_
  rw [h2, show min N 2000 = N by omega]
  have F0 : Fr fSt ι (up (up ι 6 0 11 N) 6 0 10 0) := ((Fr.refl _ _).u (by omega)).u (by omega)
  refine s_fill_39 (fun ι1 a1 F1 => s_fill_41 (fun ι2 a2 F2 => ?_))
  have F3 : Fr fSt ι ι2 := (F0.trans (F1.wide fun t i j q => by omega)).trans (F2.wide fun t i j q => by omega)
  refine s_start40 hG 7 4 0 _ _ _ _ ι2 (by omega) (by omega) (by omega) (hG1.fr F3 (fun j => by omega)) ⟨fun k x y => a2 k x y, fun q x y => by omega⟩ (fun ι3 z F4 z6 z39 => h ι3 ?_ ⟨?_, fun k x y => ?_, fun q x => by omega⟩ z (F3.trans F4))
  · rw [z6, F2 6 0 11 (by omega), F1 6 0 11 (by omega)]; simp (disch := omega) only [up_s, up_k, up_j, up_i]
  · rw [z6, F2 6 0 10 (by omega), F1 6 0 10 (by omega)]; simp (disch := omega) only [up_s, up_k, up_j, up_i]; rfl
  · rw [z39, F2 39 0 k (by omega)]; exact a1 k x y
end Start
