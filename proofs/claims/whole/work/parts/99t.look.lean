/-! pack: comp looks at a place -/
section Look
variable {sc : bm_Sc} {ι : bm_S} {H : Nat × Int → bm_S → Prop} {T : Int → Int} {N : Int} {g c : Int → Int} {K : bm_S → Prop} {p : Int}
abbrev fOf (p : Int) (t : Nat) (_ j : Int) : Prop := (t = 37 ∨ t = 38) ∧ j = p
theorem wz_N {k : Int} : wz T N g c p k = 0 ∨ 4 ≤ wz T N g c p k ∧ p + wz T N g c p k ≤ N := by
  unfold wz
  by_cases q : k / 24 % 32 < c (4 + k / 24 / 32) ∧ 4 ≤ chs (4 + k / 24 / 32) (k % 24) ∧ p + chs (4 + k / 24 / 32) (k % 24) ≤ N ∧ alleq (fun i => chb g (4 + k / 24 / 32) (k / 24 % 32) (k % 24) i) (fun i => T (p + i)) (chs (4 + k / 24 / 32) (k % 24)).toNat = true
  · rw [if_pos q]; exact Or.inr ⟨q.2.1, q.2.2.1⟩
  · rw [if_neg q]; exact Or.inl rfl
theorem tb_is {k x : Int} (hTr : ∀ k, 0 ≤ k → k < N → -128 ≤ T k ∧ T k < 128) (hk : 0 ≤ k) (hx : 0 < x ∧ x < 128) : tb T N k = x ↔ k < N ∧ T k = x := by
  unfold tb
  by_cases q : k < 0 ∨ N ≤ k
  · rw [if_pos q]; omega
  · rw [if_neg q]; have := hTr k hk (by omega); omega
theorem TCo.fr {ι ι' : bm_S} {P : Nat → Int → Int → Prop} (h : TCo ι T N) (hF : Fr P ι ι') (hP : ∀ j, ¬ P 2 0 1 ∧ ¬ P 20 0 j) : TCo ι' T N := ⟨by rw [hF 2 0 1 (hP 0).1]; exact h.1, fun k x y => by rw [hF 20 0 k (hP k).2]; exact h.2 k x y⟩
theorem GCo.fr {ι ι' : bm_S} {P : Nat → Int → Int → Prop} (h : GCo ι g c) (hF : Fr P ι ι') (hP : ∀ j, ¬ P 64 0 j ∧ ¬ P 65 0 j) : GCo ι' g c := ⟨fun k x y => by rw [hF 64 0 k (hP k).1]; exact h.1 k x y, fun k x y => by rw [hF 65 0 k (hP k).2]; exact h.2 k x y⟩
theorem s_offerB {S : Int → Prop} {co : Int} (hN : N ≤ 2000) (hp : 0 ≤ p ∧ p < N) (h11 : ι 6 0 11 = N) (hT : TCo ι T N) (hTr : ∀ k, 0 ≤ k → k < N → -128 ≤ T k ∧ T k < 128) (hco : 0 ≤ co ∧ co < 1344) (hv : cval c co) (hl : p + csz (4 + co / 6 / 32) (co % 6) ≤ N) (hm : cmt T g co p) (hW : Wst (wz T N g c p) S (ι 37 0 p) (ι 38 0 p)) (h : ∀ ι' : bm_S, Wst (wz T N g c p) (fun k => S k ∨ k = co / 6 * 24 + 6 * 0 + co % 6 ∨ k = co / 6 * 24 + 6 * 1 + co % 6 ∨ k = co / 6 * 24 + 6 * 3 + co % 6) (ι' 37 0 p) (ι' 38 0 p) → Fr (fOf p) ι ι' → K ι') : bC sc 60 [br 6 0, bi p, bi (p + csz (4 + co / 6 / 32) (co % 6)), bi co] ι (bk0 K H) := by
  obtain ⟨r1, r2, r3⟩ := co_rg hco
  have hc1 := csz_rg (how := co % 6) r1
  obtain ⟨be, hbe⟩ : ∃ be, be = p + csz (4 + co / 6 / 32) (co % 6) := ⟨_, rfl⟩
  have z0 := wz_0 (T := T) (N := N) (g := g) (c := c) (p := p) hco hv hl hm
  rw [← hbe] at z0
  -- the third
  have third : ∀ (ι1 : bm_S) (S1 : Int → Prop), Wst (wz T N g c p) S1 (ι1 37 0 p) (ι1 38 0 p) → Fr (fOf p) ι ι1 → (∀ ι2 : bm_S, Wst (wz T N g c p) (fun k => S1 k ∨ k = co / 6 * 24 + 6 * 3 + co % 6) (ι2 37 0 p) (ι2 38 0 p) → Fr (fOf p) ι ι2 → K ι2) → (bm_rg (be + 1)) ∧ (if ι1 6 0 11 ≤ be + 1 then K ι1 else bC sc 15 [br 2 0, bi be] ι1 (bk1 (fun r2 ι2 => (if r2 = (44 : Int) then (bm_rg (be + 1)) ∧ bC sc 15 [br 2 0, bi (be + 1)] ι2 (bk1 (fun r3 ι3 => (if r3 = (32 : Int) then (bm_rg (be + 2)) ∧ bC sc 61 [br 6 0, bi p, bi (be + 2), bi co, bi 3] ι3 (bk0 K H) else K ι3)) H) else K ι2)) H)) := fun ι1 S1 W1 F1 h2 => by
    have hT1 := hT.fr F1 (fun j => by omega)
    have no : ¬ (be + 1 < N ∧ T be = 44 ∧ T (be + 1) = 32) → K ι1 := fun q => h2 ι1 (W1.more (fun k _ _ s => by
      rcases s with s | s
      · exact Or.inl s
      · rw [s]; refine Or.inr (wz_3n hco ?_); rw [← hbe]; exact q)) F1
    have e11 : ι1 6 0 11 = N := by rw [F1 6 0 11 (by omega)]; exact h11
    rw [e11]
    refine ⟨by omega, bif_i (fun q => no (by omega)) (fun q => s_tb (T := T) (by omega) hT1 (bif_i (fun q1 => ⟨by omega, s_tb (T := T) (by omega) hT1 (bif_i (fun q2 => ⟨by omega, ?_⟩) (fun q2 => no ?_))⟩) (fun q1 => no ?_)))⟩
    · have w1 := (tb_is hTr (by omega) (by omega)).mp q1
      have w2 := (tb_is hTr (by omega) (by omega)).mp q2
      have z3 := wz_3 (T := T) (N := N) (g := g) (c := c) (p := p) hco hv (by omega) hm (by rw [← hbe]; exact w1.2) (by rw [← hbe]; exact w2.2)
      rw [← hbe] at z3
      exact s_offer (by omega) (by omega) hco (by omega) W1 z3 (fun ι2 W2 F2 => h2 ι2 W2 (F1.trans F2))
    · exact fun z => q2 ((tb_is hTr (by omega) (by omega)).mpr ⟨z.1, z.2.2⟩)
    · exact fun z => q1 ((tb_is hTr (by omega) (by omega)).mpr ⟨by omega, z.2.1⟩)
  rw [← hbe]
  refine e_F_offerBehind_0 (s_offer (by omega) (by omega) hco (by omega) hW z0 (fun ι1 W1 F1 => ?_))
  have hT1 := hT.fr F1 (fun j => by omega)
  have e11 : ι1 6 0 11 = N := by rw [F1 6 0 11 (by omega)]; exact h11
  have fin : ∀ (ι2 : bm_S), Wst (wz T N g c p) (fun k => ((S k ∨ k = co / 6 * 24 + 6 * 0 + co % 6) ∨ k = co / 6 * 24 + 6 * 1 + co % 6) ∨ k = co / 6 * 24 + 6 * 3 + co % 6) (ι2 37 0 p) (ι2 38 0 p) → Fr (fOf p) ι ι2 → K ι2 := fun ι2 W2 F2 => by
    refine h ι2 (W2.more (fun k _ _ s => Or.inl ?_)) F2
    rcases s with s | s | s | s
    · exact Or.inl (Or.inl (Or.inl s))
    · exact Or.inl (Or.inl (Or.inr s))
    · exact Or.inl (Or.inr s)
    · exact Or.inr s
  have no1 : ¬ (be < N ∧ T be = 32) → Wst (wz T N g c p) (fun k => (S k ∨ k = co / 6 * 24 + 6 * 0 + co % 6) ∨ k = co / 6 * 24 + 6 * 1 + co % 6) (ι1 37 0 p) (ι1 38 0 p) := fun q => W1.more (fun k _ _ s => by
    rcases s with s | s
    · exact Or.inl s
    · rw [s]; refine Or.inr (wz_1n hco ?_); rw [← hbe]; exact q)
  have t1 : ¬ (be < N ∧ T be = 32) → _ := fun q => third ι1 _ (no1 q) F1 fin
  rw [e11] at t1
  rw [e11]
  refine bif_i (fun q => t1 (by omega)) (fun q => s_tb (T := T) (by omega) hT1 (bif_i (fun q1 => ⟨by omega, ?_⟩) (fun q1 => ?_)))
  · have w1 := (tb_is hTr (by omega) (by omega)).mp q1
    have z1 := wz_1 (T := T) (N := N) (g := g) (c := c) (p := p) hco hv (by omega) hm (by rw [← hbe]; exact w1.2)
    rw [← hbe] at z1
    exact s_offer (by omega) (by omega) hco (by omega) W1 z1 (fun ι2 W2 F2 => third ι2 _ W2 (F1.trans F2) fin)
  · have t2 := third ι1 _ (no1 (fun z => q1 ((tb_is hTr (by omega) (by omega)).mpr z))) F1 fin
    rw [e11] at t2 ⊢
    exact t2
/-- the chains of cores -/
def CH (ι : bm_S) (g c : Int → Int) (m : Nat) : Prop := (∀ h, 0 ≤ h → h < 256 → ι 41 0 h = lp (hc g c) h m) ∧ ∀ q : Nat, q < m → cval c q → ι 42 0 q = lp (hc g c) (hc g c q) q
theorem CH.fr {ι ι' : bm_S} {m : Nat} {P : Nat → Int → Int → Prop} (h : CH ι g c m) (hF : Fr P ι ι') (hP : ∀ j, ¬ P 41 0 j ∧ ¬ P 42 0 j) : CH ι' g c m := ⟨fun k x y => by rw [hF 41 0 k (hP k).1]; exact h.1 k x y, fun q x y => by rw [hF 42 0 q (hP q).2]; exact h.2 q x y⟩
def Sa (fl : Int) (k : Int) : Prop := if fl = 0 then k % 24 / 6 ≠ 2 else k % 24 / 6 = 2
theorem s_fw42 {Sb : Int → Prop} {fl h : Int} (hfl : fl = 0 ∨ fl = 1 ∧ T p = 32) (hN : N ≤ 2000) (hp : 0 ≤ p ∧ p < N) (hst : p + fl + 1 < N) (hh : h = (33 * (T (p + fl) % 256) + T (p + fl + 1) % 256) % 256) (hG : GV g c) (hTr : ∀ k, 0 ≤ k → k < N → -128 ≤ T k ∧ T k < 128) : ∀ (m : Nat) (ι : bm_S) (x5 : Int) (v6 v7 v8 : bm_V), m ≤ 1344 → 0 ≤ x5 → x5 + m ≤ 1344 → ι 6 0 11 = N → TCo ι T N → GCo ι g c → CH ι g c 1344 → Wst (wz T N g c p) (fun k => Sb k ∨ Sa fl k ∧ m ≤ k / 24 * 6 + k % 6) (ι 37 0 p) (ι 38 0 p) → (∀ ι' : bm_S, Wst (wz T N g c p) (fun k => Sb k ∨ Sa fl k) (ι' 37 0 p) (ι' 38 0 p) → Fr (fOf p) ι ι' → K ι') → bW sc 58 42 [br 6 0, bi p, bi (p + fl), bi fl, bi (lp (hc g c) h m), bi x5, v6, v7, v8] [] ι (bk0 K H) := by
  intro m
  induction m using Nat.strongRecOn with
  | _ m ih =>
    intro ι x5 v6 v7 v8 hm h5 h5m h11 hT hG1 hC hW hK
    have hl := lp_rg (hc g c) h m
    -- another hash: no match
    have other : ∀ q : Nat, q < 1344 → hc g c q ≠ h → ¬ (cval c q ∧ cmt T g q (p + fl)) := fun q hq hne z => by
      obtain ⟨r1, r2, r3⟩ := co_rg (co := q) (by omega)
      have hc1 := csz_rg (how := (q : Int) % 6) r1
      apply hne
      have e0 := z.2 0 (by omega) (by omega)
      have e1 := z.2 1 (by omega) (by omega)
      rw [show p + fl + 0 = p + fl by omega] at e0
      unfold hc
      rw [if_pos (show (q : Int) / 6 % 32 < c (4 + (q : Int) / 6 / 32) from z.1)]
      unfold hcb
      rw [e0, e1, hh]
    have zero : ∀ k, 0 ≤ k → k < 5376 → Sa fl k → ¬ (cval c (k / 24 * 6 + k % 6) ∧ p + fl + csz (4 + (k / 24 * 6 + k % 6) / 6 / 32) ((k / 24 * 6 + k % 6) % 6) ≤ N ∧ cmt T g (k / 24 * 6 + k % 6) (p + fl)) → wz T N g c p k = 0 := fun k k0 k1 s hn => by
      have ek : k = (k / 24 * 6 + k % 6) / 6 * 24 + 6 * (k % 24 / 6) + (k / 24 * 6 + k % 6) % 6 := by omega
      have hco : 0 ≤ k / 24 * 6 + k % 6 ∧ k / 24 * 6 + k % 6 < 1344 := by omega
      rcases hfl with e | ⟨e, e32⟩
      · unfold Sa at s
        rw [if_pos e] at s
        rw [e, show p + 0 = p by omega] at hn
        have := wz_nomatch (T := T) (N := N) (g := g) (c := c) (p := p) (a := k % 24 / 6) hco (by omega) hn
        rw [← ek] at this
        exact this
      · unfold Sa at s
        rw [if_neg (by omega)] at s
        rw [e] at hn
        have := wz_nomatch2 (T := T) (N := N) (g := g) (c := c) (p := p) hco (fun z => hn ⟨z.1, z.2.2⟩)
        rw [← s, ← ek] at this
        exact this
    by_cases c1 : lp (hc g c) h m < 0
    · have fin := hK ι (hW.more (fun k k0 k1 s => by
        rcases s with s | s
        · exact Or.inl (Or.inl s)
        · by_cases q : (m : Int) ≤ k / 24 * 6 + k % 6
          · exact Or.inl (Or.inr ⟨s, q⟩)
          · refine Or.inr (zero k k0 k1 s (fun z => ?_))
            have := lp_no (hc g c) h m (k / 24 * 6 + k % 6).toNat (by omega) (by omega)
            refine other (k / 24 * 6 + k % 6).toNat (by omega) this ?_
            rw [show (((k / 24 * 6 + k % 6).toNat : Nat) : Int) = k / 24 * 6 + k % 6 by omega]
            exact ⟨z.1, z.2.2⟩)) (Fr.refl _ _)
      exact e_F_findWord_42 (bif_i (fun _ => fin) (fun _ => bif_t c1 fin))
    obtain ⟨q, hq⟩ : ∃ q : Nat, (q : Int) = lp (hc g c) h m := ⟨(lp (hc g c) h m).toNat, by omega⟩
    have hqh : hc g c q = h := by rw [hq]; exact lp_at (hc g c) h m (by omega)
    have hqm : q < m := by omega
    have hqc : 0 ≤ (q : Int) ∧ (q : Int) < 1344 := by omega
    have hqv : cval c q := by
      by_cases z : cval c q
      · exact z
      · exfalso
        have e : hc g c q = -1 := if_neg z
        omega
    obtain ⟨r1, r2, r3⟩ := co_rg hqc
    have hc1 := csz_rg (how := (q : Int) % 6) r1
    have e42 := hC.2 q (by omega) hqv
    rw [hqh] at e42
    -- the cores between are none
    have hWq : Wst (wz T N g c p) (fun k => Sb k ∨ Sa fl k ∧ ((q : Int) + 1) ≤ k / 24 * 6 + k % 6) (ι 37 0 p) (ι 38 0 p) := hW.more (fun k k0 k1 s => by
      rcases s with s | s
      · exact Or.inl (Or.inl s)
      · by_cases z : (m : Int) ≤ k / 24 * 6 + k % 6
        · exact Or.inl (Or.inr ⟨s.1, z⟩)
        · refine Or.inr (zero k k0 k1 s.1 (fun w => ?_))
          have := lp_no (hc g c) h m (k / 24 * 6 + k % 6).toNat (by omega) (by omega)
          refine other (k / 24 * 6 + k % 6).toNat (by omega) this ?_
          rw [show (((k / 24 * 6 + k % 6).toNat : Nat) : Int) = k / 24 * 6 + k % 6 by omega]
          exact ⟨w.1, w.2.2⟩)
    have next : ∀ (ι1 : bm_S) (v6 v7 v8 : bm_V), Wst (wz T N g c p) (fun k => Sb k ∨ Sa fl k ∧ (q : Int) ≤ k / 24 * 6 + k % 6) (ι1 37 0 p) (ι1 38 0 p) → Fr (fOf p) ι ι1 → bW sc 58 42 [br 6 0, bi p, bi (p + fl), bi fl, bi (ι1 42 0 q), bi (x5 + 1), v6, v7, v8] [] ι1 (bk0 K H) := fun ι1 v6 v7 v8 W1 F1 => by
      rw [F1 42 0 q (by omega), e42]
      exact ih q hqm ι1 (x5 + 1) v6 v7 v8 (by omega) (by omega) (by omega) (by rw [F1 6 0 11 (by omega)]; exact h11) (hT.fr F1 (fun j => by omega)) (hG1.fr F1 (fun j => by omega)) (hC.fr F1 (fun j => by omega)) W1 (fun ι2 W2 F2 => hK ι2 W2 (F1.trans F2))
    have none : ¬ (p + fl + csz (4 + (q : Int) / 6 / 32) ((q : Int) % 6) ≤ N ∧ cmt T g q (p + fl)) → Wst (wz T N g c p) (fun k => Sb k ∨ Sa fl k ∧ (q : Int) ≤ k / 24 * 6 + k % 6) (ι 37 0 p) (ι 38 0 p) := fun z => hWq.more (fun k k0 k1 s => by
      rcases s with s | s
      · exact Or.inl (Or.inl s)
      · by_cases w : (q : Int) + 1 ≤ k / 24 * 6 + k % 6
        · exact Or.inl (Or.inr ⟨s.1, w⟩)
        · refine Or.inr (zero k k0 k1 s.1 (fun w2 => z ?_))
          have e : k / 24 * 6 + k % 6 = q := by omega
          rw [e] at w2
          exact w2.2)
    rw [← hq]
    refine e_F_findWord_42 (bif_f (by omega) (bif_f (by omega) ⟨by omega, by omega, by omega, by omega, s_coreSize r1 ⟨by omega, ?_⟩⟩))
    rw [h11]
    refine bif_i (fun c2 => ⟨by omega, by omega, next ι _ _ _ (none (by omega)) (Fr.refl _ _)⟩) (fun c2 => ?_)
    refine s_isCore hN hG hG1 hT hTr hqc (by omega) (by omega) (fun hm1 => bif_f (by omega) ?_) (fun hm0 => bif_t rfl ⟨by omega, by omega, next ι _ _ _ (none (fun z => hm0 z.2)) (Fr.refl _ _)⟩)
    rcases hfl with e | ⟨e, e32⟩
    · refine bif_t e ?_
      rw [e, show p + 0 = p by omega] at hm1 c2 ⊢
      refine s_offerB hN hp h11 hT hTr hqc hqv (by omega) hm1 hWq (fun ι1 W1 F1 => ⟨by omega, by omega, ?_⟩)
      have := next ι1 (bi ((q : Int) % 6)) (bi (4 + (q : Int) / 6 / 32)) (bi (p + csz (4 + (q : Int) / 6 / 32) ((q : Int) % 6))) (W1.more (fun k k0 k1 s => by
        rcases s with s | s
        · exact Or.inl (Or.inl (Or.inl s))
        · by_cases w : (q : Int) + 1 ≤ k / 24 * 6 + k % 6
          · exact Or.inl (Or.inl (Or.inr ⟨s.1, w⟩))
          · have s1 := s.1
            unfold Sa at s1
            rw [if_pos e] at s1
            refine Or.inl (Or.inr ?_)
            omega)) F1
      rw [e, show p + 0 = p by omega] at this
      exact this
    · refine bif_f (by omega) ?_
      rw [e] at hm1 c2 ⊢
      have z2 := wz_2 (T := T) (N := N) (g := g) (c := c) (p := p) hqc hqv (by omega) hm1 e32
      refine s_offer (by omega) (by omega) hqc (by omega) hWq z2 (fun ι1 W1 F1 => ⟨by omega, by omega, ?_⟩)
      have := next ι1 (bi ((q : Int) % 6)) (bi (4 + (q : Int) / 6 / 32)) (bi (p + 1 + csz (4 + (q : Int) / 6 / 32) ((q : Int) % 6))) (W1.more (fun k k0 k1 s => by
        rcases s with s | s
        · exact Or.inl (Or.inl (Or.inl s))
        · by_cases w : (q : Int) + 1 ≤ k / 24 * 6 + k % 6
          · exact Or.inl (Or.inl (Or.inr ⟨s.1, w⟩))
          · have s1 := s.1
            unfold Sa at s1
            rw [if_neg (by omega)] at s1
            refine Or.inl (Or.inr ?_)
            omega)) F1
      rw [e] at this
      exact this
theorem s_findWord {Sb : Int → Prop} {fl : Int} (hfl : fl = 0 ∨ fl = 1 ∧ T p = 32) (hN : N ≤ 2000) (hp : 0 ≤ p ∧ p < N) (hG : GV g c) (hTr : ∀ k, 0 ≤ k → k < N → -128 ≤ T k ∧ T k < 128) (h11 : ι 6 0 11 = N) (hT : TCo ι T N) (hG1 : GCo ι g c) (hC : CH ι g c 1344) (hW : Wst (wz T N g c p) Sb (ι 37 0 p) (ι 38 0 p)) (hK : ∀ ι' : bm_S, Wst (wz T N g c p) (fun k => Sb k ∨ Sa fl k) (ι' 37 0 p) (ι' 38 0 p) → Fr (fOf p) ι ι' → K ι') : bC sc 58 [br 6 0, bi p, bi (p + fl), bi fl] ι (bk0 K H) := by
  refine e_F_findWord_0 ?_
  rw [h11]
  refine ⟨by omega, bif_i (fun c1 => ?_) (fun c1 => ?_)⟩
  · refine s_tb (T := T) (by omega) hT ⟨by omega, s_tb (T := T) (by omega) hT ?_⟩
    have a0 := tb_rg T N (p + fl)
    have a1 := tb_rg T N (p + fl + 1)
    have e0 : tb T N (p + fl) = T (p + fl) % 256 := by unfold tb; rw [if_neg (by omega)]
    have e1 : tb T N (p + fl + 1) = T (p + fl + 1) % 256 := by unfold tb; rw [if_neg (by omega)]
    refine e_F_pairHash_0 ⟨by omega, by omega, ⟨by omega, ?_⟩⟩
    rw [hC.1 _ (by omega) (by omega)]
    refine s_fw42 (Sb := Sb) hfl hN hp c1 (by rw [e0, e1]) hG hTr 1344 ι 0 _ _ _ (by omega) (by omega) (by omega) h11 hT hG1 hC (hW.more (fun k k0 k1 s => ?_)) hK
    rcases s with s | s
    · exact Or.inl s
    · omega
  · refine hK ι (hW.more (fun k k0 k1 s => ?_)) (Fr.refl _ _)
    rcases s with s | s
    · exact Or.inl s
    · have := wz_N (T := T) (N := N) (g := g) (c := c) (p := p) (k := k)
      omega
abbrev fLk (p : Int) (t : Nat) (i j : Int) : Prop := (35 ≤ t ∧ t ≤ 38) ∧ j = p ∨ t = 39 ∨ t = 40 ∨ t = 6 ∧ j = 10
/-- comp looks at a place -/
theorem s_look13 {p : Nat} (hN : N ≤ 2000) (hp : (p : Int) < N) (hG : GV g c) (hTr : ∀ k, 0 ≤ k → k < N → -128 ≤ T k ∧ T k < 128) : ∀ (m kn : Nat) (ι : bm_S) (v2 : bm_V), kn + m = p → ι 6 0 11 = N → TCo ι T N → GCo ι g c → CH ι g c 1344 → PH ι T N kn → (∀ ι' : bm_S, ι' 35 0 p = cpM T N p → ι' 36 0 p = cpD T N p → ι' 37 0 p = wdM T N g c p → ι' 38 0 p = wdK T N g c p → PH ι' T N p → Fr (fLk p) ι ι' → K ι') → bW sc 53 13 [br 6 0, bi p, v2] [] ι (bk0 K H)
  | 0, kn, ι, v2, hk, h11, hT, hG1, hC, hP, h => by
    have ek : kn = p := by omega
    rw [ek] at hP
    have hz : ∀ k, 0 ≤ wz T N g c p k := fun k => by have := wz_rg (T := T) (N := N) (g := g) (c := c) (p := p) (k := k); omega
    refine e_F_look_13 (bif_t (by rw [hP.1]; omega) (s_findCopy hN hp h11 hT hP ⟨by omega, by omega, ?_⟩))
    obtain ⟨ι1, h1⟩ : ∃ ι1, ι1 = up (up (up (up ι 35 0 p (cpM T N p)) 36 0 p (cpD T N p)) 37 0 p 0) 38 0 p 0 := ⟨_, rfl⟩
    have F1 : Fr (fun t i j => (35 ≤ t ∧ t ≤ 38) ∧ j = p) ι ι1 := by rw [h1]; exact ((((Fr.refl _ _).u (by omega)).u (by omega)).u (by omega)).u (by omega)
    rw [← h1]
    have a5 : ι1 35 0 p = cpM T N p := by rw [h1]; simp (disch := omega) only [up_s, up_k, up_j, up_i]
    have a6 : ι1 36 0 p = cpD T N p := by rw [h1]; simp (disch := omega) only [up_s, up_k, up_j, up_i]
    have a7 : ι1 37 0 p = 0 := by rw [h1]; simp (disch := omega) only [up_s, up_k, up_j, up_i]
    have a8 : ι1 38 0 p = 0 := by rw [h1]; simp (disch := omega) only [up_s, up_k, up_j, up_i]
    have T1 := hT.fr F1 (fun j => by omega)
    have G1 := hG1.fr F1 (fun j => by omega)
    have C1 := hC.fr F1 (fun j => by omega)
    have b1 : ι1 6 0 11 = N := by rw [F1 6 0 11 (by omega)]; exact h11
    have hfin : ∀ ι' : bm_S, Wst (wz T N g c p) (fun k => True) (ι' 37 0 p) (ι' 38 0 p) → Fr (fOf p) ι1 ι' → K ι' := fun ι' W F => by
      have u := wM_un hz (m := 5376) (A := ι' 37 0 p) (B := ι' 38 0 p) (by
        rcases W with ⟨q1, q2, q3⟩ | ⟨q1, q2, q3, q4, q5, q6⟩
        · exact Or.inl ⟨q1, q2, fun k x y => q3 k x (by omega) trivial⟩
        · exact Or.inr ⟨q1, q2, q3, by omega, fun k x y => q5 k x (by omega) trivial, fun k x y => q6 k x y trivial⟩)
      refine h ι' (by rw [F 35 0 p (by omega)]; exact a5) (by rw [F 36 0 p (by omega)]; exact a6) u.1 u.2 ⟨by rw [F 6 0 10 (by omega), F1 6 0 10 (by omega)]; exact hP.1, fun k x y => by rw [F 39 0 k (by omega), F1 39 0 k (by omega)]; exact hP.2.1 k x y, fun q x => by rw [F 40 0 q (by omega), F1 40 0 q (by omega)]; exact hP.2.2 q x⟩ ((F1.wide fun t i j q => Or.inl q).trans (F.wide fun t i j q => by omega))
    have fw := s_findWord (sc := sc) (H := H) (K := fun ι2 => bC sc 15 [br 2 0, bi p] ι2 (bk1 (fun r3 ι3 => (if r3 = (32 : Int) then (bm_rg ((p : Int) + 1)) ∧ bC sc 58 [br 6 0, bi p, bi ((p : Int) + 1), bi 1] ι3 (bk0 K H) else K ι3)) H)) (Sb := fun _ => False) (fl := 0) (Or.inl rfl) hN ⟨by omega, hp⟩ hG hTr b1 T1 G1 C1 (by rw [a7, a8]; exact Or.inl ⟨rfl, rfl, fun k _ _ s => absurd s (fun z => z)⟩) (fun ι2 W2 F2 => by
      have T2 := T1.fr F2 (fun j => by omega)
      refine s_tb (T := T) (by omega) T2 (bif_i (fun q => ⟨by omega, ?_⟩) (fun q => ?_))
      · have w := (tb_is hTr (by omega) (by omega)).mp q
        refine s_findWord (Sb := fun k => False ∨ Sa 0 k) (fl := 1) (Or.inr ⟨rfl, w.2⟩) hN ⟨by omega, hp⟩ hG hTr (by rw [F2 6 0 11 (by omega)]; exact b1) T2 (G1.fr F2 (fun j => by omega)) (C1.fr F2 (fun j => by omega)) W2 (fun ι3 W3 F3 => hfin ι3 (W3.more (fun k _ _ _ => Or.inl ?_)) (F2.trans F3))
        by_cases z : k % 24 / 6 = 2
        · exact Or.inr (by unfold Sa; rw [if_neg (by omega)]; exact z)
        · exact Or.inl (Or.inr (by unfold Sa; rw [if_pos rfl]; exact z))
      · refine hfin ι2 (W2.more (fun k k0 k1 _ => ?_)) F2
        by_cases z : k % 24 / 6 = 2
        · have ek : k = (k / 24 * 6 + k % 6) / 6 * 24 + 6 * 2 + (k / 24 * 6 + k % 6) % 6 := by omega
          have := wz_nomatch2 (T := T) (N := N) (g := g) (c := c) (p := p) (co := k / 24 * 6 + k % 6) (by omega) (fun y => q ((tb_is hTr (by omega) (by omega)).mpr ⟨hp, y.2.1⟩))
          rw [← ek] at this
          exact Or.inr this
        · exact Or.inl (Or.inr (by unfold Sa; rw [if_pos rfl]; exact z)))
    rw [show (p : Int) + 0 = p by omega] at fw
    exact fw
  | m + 1, kn, ι, v2, hk, h11, hT, hG1, hC, hP, h => by
    have hh := hv_rg T N kn
    refine e_F_look_13 (bif_f (by rw [hP.1]; omega) ?_)
    rw [hP.1]
    refine s_hash (by omega) (by omega) hT ?_
    rw [hP.1, hP.2.1 _ hh.1 hh.2]
    have F1 : Fr (fLk p) ι (up (up (up ι 40 0 kn (lp (hv T N) (hv T N kn) kn)) 39 0 (hv T N kn) kn) 6 0 10 ((kn : Int) + 1)) := ((((Fr.refl _ _).u (by omega)).u (by omega)).u (by omega))
    refine ⟨by omega, by omega, by omega, by omega, ?_⟩
    refine s_look13 hN hp hG hTr m (kn + 1) _ _ (by omega) (by simp (disch := omega) only [up_s, up_k, up_j, up_i]; exact h11) (hT.fr F1 (fun j => by omega)) (hG1.fr F1 (fun j => by omega)) (hC.fr F1 (fun j => by omega)) ⟨by simp (disch := omega) only [up_s, up_k, up_j, up_i]; omega, fun k x y => ?_, fun q x => ?_⟩ (fun ι' a b c d e F2 => h ι' a b c d e (F1.trans F2))
    · rw [up_k (by decide), up_at]
      show _ = if hv T N kn = k then (kn : Int) else lp (hv T N) k kn
      by_cases z : k = hv T N kn
      · rw [if_pos z, if_pos z.symm]
      · rw [if_neg z, if_neg (fun w => z w.symm), up_k (by decide)]; exact hP.2.1 k x y
    · rw [up_k (by decide), up_k (by decide), up_at]
      by_cases z : q = kn
      · rw [if_pos (by omega), z]
      · rw [if_neg (by omega)]; exact hP.2.2 q (by omega)
theorem s_look {p kn : Nat} (hN : N ≤ 2000) (hp : (p : Int) < N) (hkn : kn ≤ p) (hG : GV g c) (hTr : ∀ k, 0 ≤ k → k < N → -128 ≤ T k ∧ T k < 128) (h11 : ι 6 0 11 = N) (hT : TCo ι T N) (hG1 : GCo ι g c) (hC : CH ι g c 1344) (hP : PH ι T N kn) (h : ∀ ι' : bm_S, ι' 35 0 p = cpM T N p → ι' 36 0 p = cpD T N p → ι' 37 0 p = wdM T N g c p → ι' 38 0 p = wdK T N g c p → PH ι' T N p → Fr (fLk p) ι ι' → K ι') : bC sc 53 [br 6 0, bi p] ι (bk0 K H) := e_F_look_0 (bif_f (by omega) (bif_t (by rw [h11]; exact hp) (s_look13 hN hp hG hTr (p - kn) kn ι _ (by omega) h11 hT hG1 hC hP h)))
end Look
