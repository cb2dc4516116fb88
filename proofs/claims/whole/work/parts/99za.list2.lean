/-! pack: the list of commands, both alike -/
section List2
variable {sc : bm_Sc} {T : Int → Int} {N : Int} {g c : Int → Int} {lv : Int} {f : Int → Int}
/-- the commands from k on, which begin at the ix-th place that is reached -/
def LSt (f wyf : Int → Int) (N : Int) (A : Int → Int → Int) : Nat → Int → Nat → Prop
  | 0, _, ix => rch f N ix = N
  | n + 1, k, ix => ∃ e : Nat, A 0 k = e ∧ (∀ j : Nat, j < e → rch f N (ix + j) = rch f N ix + j ∧ rch f N (ix + j) < N ∧ wyf (rch f N (ix + j)) = 0) ∧ rch f N (ix + e) = rch f N ix + e ∧
    ((n = 0 ∧ 0 < e ∧ rch f N (ix + e) = N ∧ A 1 k = 0 ∧ A 2 k = 0 ∧ A 3 k = csg (cod ia e 24) 0 (-1) ∧ A 4 k = -1 ∧ A 5 k = 0 ∧ A 6 k = 2) ∨
     (rch f N (ix + e) < N ∧ wyf (rch f N (ix + e)) ≠ 0 ∧ A 5 k = f (rch f N (ix + e)) ∧ A 6 k = A 1 k ∧ (2 ≤ A 1 k ∧ A 1 k ≤ 200) ∧ (1 ≤ A 2 k ∧ A 2 k + 3 < 4096) ∧ (∃ s, (0 ≤ s ∧ s < 64) ∧ (16 ≤ s → s = 16 + 2 * (lgn (A 2 k) - 1) + (A 2 k + 3) / bm_p2 (lgn (A 2 k)) % 2) ∧ A 3 k = csg (cod ia e 24) (cod ya (A 1 k) 24) s ∧ A 4 k = (if 128 ≤ A 3 k then s else -1)) ∧ LSt f wyf N A n (k + 1) (ix + e + 1)))
theorem sgn_16 {rg : Int → Int} {d : Int} (h : 16 ≤ sgn rg d) : sgn rg d = 16 + 2 * (lgn d - 1) + (d + 3) / bm_p2 (lgn d) % 2 := by
  unfold sgn at h ⊢
  grind
theorem ChC.fr {ι ι' : bm_S} {P : Nat → Int → Int → Prop} (h : ChC ι T N g c lv) (hF : Fr P ι ι') (hP : ∀ q, ¬ P 35 0 q ∧ ¬ P 36 0 q ∧ ¬ P 37 0 q ∧ ¬ P 38 0 q ∧ ¬ P 61 0 q) : ChC ι' T N g c lv := fun i hi => by
  have q := h i hi
  have p := hP (rch (mk lv (cf T N) (wdM T N g c) N) N i)
  refine ⟨q.1.fr hF ⟨p.1, p.2.1, p.2.2.1, p.2.2.2.1⟩, ?_⟩
  rw [hF 61 0 _ p.2.2.2.2]; exact q.2
theorem WQ.fr {ι ι' : bm_S} {q : Int} {P : Nat → Int → Int → Prop} (h : WQ ι T N g c lv q) (hF : Fr P ι ι') (hP : ∀ t : Nat, 96 ≤ t → t ≤ 102 → ¬ P t 0 q) : WQ ι' T N g c lv q := by
  unfold WQ
  rw [hF 96 0 q (hP 96 (by omega) (by omega)), hF 97 0 q (hP 97 (by omega) (by omega)), hF 98 0 q (hP 98 (by omega) (by omega)), hF 99 0 q (hP 99 (by omega) (by omega)), hF 100 0 q (hP 100 (by omega) (by omega)), hF 101 0 q (hP 101 (by omega) (by omega)), hF 102 0 q (hP 102 (by omega) (by omega))]
  exact h
theorem m_madeBy {ι : bm_S} {K : Int → bm_S → Prop} {H : Nat × Int → bm_S → Prop} {p : Int} (hp : 0 ≤ p ∧ p < 2000) (hN : N ≤ 2000) (hpN : p < N) (hQ : WQ ι T N g c lv p) (h : K (mk lv (cf T N) (wdM T N g c) N p) ι) : bC sc 247 [br 13 0, bi p] ι (bk1 K H) := by
  have hw := wy_rg (lv := lv) (AB_of (T := T) (N := N) (g := g) (c := c)) hN ⟨hp.1, hpN⟩
  refine e_M_madeBy_0 ?_
  rw [hQ.2.2.2.2, hQ.1, hQ.2.2.1]
  unfold mk at h
  refine ⟨by omega, bif_i (fun z => ⟨by omega, ?_⟩) (fun z => ⟨by omega, bif_i (fun z1 => ⟨by omega, ?_⟩) (fun z1 => ?_)⟩)⟩
  · rw [if_neg (by omega), if_pos z] at h; exact h
  · rw [if_neg (by omega), if_neg z] at h; exact h
  · rw [if_pos (by omega)] at h; exact h
theorem df_rg {p : Int} (hp : 0 ≤ p ∧ p < N) (hN : N ≤ 2000) (h : 0 < cf T N p) : 1 ≤ df T N p ∧ df T N p ≤ p := by
  have := bc_rg T p (min 200 (N - p)).toNat p.toNat
  have e : cf T N p = bcM T p (min 200 (N - p)).toNat p.toNat := by unfold cf cpM; rw [show ((p.toNat : Nat) : Int) = p by omega]
  have e2 : df T N p = bcD T p (min 200 (N - p)).toNat p.toNat := by unfold df cpD; rw [show ((p.toNat : Nat) : Int) = p by omega]
  rw [e] at h
  rw [e2]; omega
theorem cf_200 {p : Int} (hp : 0 ≤ p ∧ p < N) : cf T N p ≤ 200 := by
  have := bc_rg T p (min 200 (N - p)).toNat p.toNat
  have e : cf T N p = bcM T p (min 200 (N - p)).toNat p.toNat := by unfold cf cpM; rw [show ((p.toNat : Nat) : Int) = p by omega]
  rw [e]; omega
theorem wdK_rg {p : Int} : 0 ≤ wdK T N g c p ∧ wdK T N g c p < 5376 := by
  have hz : ∀ k, 0 ≤ wz T N g c p k := fun k => by have := wz_rg (T := T) (N := N) (g := g) (c := c) (p := p) (k := k); omega
  have q := wM_ch hz 5376
  unfold wdK
  by_cases z : wM (wz T N g c p) 5376 = 0
  · have := q.2.1 z; omega
  · have := q.2.2.2 (by omega); omega
theorem j_list (hlv : lv = 1 ∨ lv = 2) (hN : 0 ≤ N ∧ N ≤ 2000) (hG : GV g c) (hf : f = mk lv (cf T N) (wdM T N g c) N) : ∀ (M ix e : Nat) (m : Int) (A : Int → Int → Int) (rg : Int → Int), N - rch f N (ix + e) < M → (∀ j : Nat, j < e → rch f N (ix + j) = rch f N ix + j ∧ rch f N (ix + j) < N ∧ wy lv (cf T N) (wdM T N g c) N (rch f N (ix + j)) = 0) → rch f N (ix + e) = rch f N ix + e → 0 ≤ m → 4 * m ≤ rch f N ix →
    ∃ (n : Nat) (A' : Int → Int → Int) (rg' : Int → Int), (∀ w k, k < m → A' w k = A w k) ∧ LSt f (wy lv (cf T N) (wdM T N g c) N) N A' n m ix ∧ 4 * (m + n) ≤ N + 4 ∧
    (∀ (ι : bm_S) (K : bm_S → Prop) (H : Nat × Int → bm_S → Prop), CmC ι m A rg → ChC ι T N g c lv → GCo ι g c → (∀ ι' : bm_S, CmC ι' (m + n) A' rg' → Fr fCm ι ι' → K ι') → bW sc 100 11 [br 9 0, bi N, bi e, bi (rch f N (ix + e))] [] ι (bk0 K H)) ∧
    (∀ (ι : bm_S) (K : bm_S → Prop) (H : Nat × Int → bm_S → Prop) (v3 v4 : bm_V), CmM ι m A rg → ι 13 0 59 = N → (∀ q, 0 ≤ q → q < N → WQ ι T N g c lv q) → GMo ι g c → (∀ ι' : bm_S, CmM ι' (m + n) A' rg' → Fr gCm ι ι' → K ι') → bW sc 253 40 [br 13 0, bi (rch f N ix), bi (rch f N (ix + e)), v3, v4] [] ι (bk0 K H)) := by
  have hmk : ∀ p, 0 ≤ p → p < N → 1 ≤ f p ∧ p + f p ≤ N := by rw [hf]; exact mk_ab hN.2
  have hab : AB (cf T N) (wdM T N g c) N := AB_of
  intro M
  induction M with
  | zero => intro ix e m A rg hM; have := rch_rg hN.1 hmk (ix + e); omega
  | succ M ih =>
    intro ix e m A rg hM hL hre hm0 hm4
    have hri := rch_rg hN.1 hmk (ix + e)
    have hrx := rch_rg hN.1 hmk ix
    by_cases hz : rch f N (ix + e) < N
    · -- a place
      obtain ⟨p, hp⟩ : ∃ p, p = rch f N (ix + e) := ⟨_, rfl⟩
      have hs : rch f N (ix + e + 1) = p + f p := by rw [hp]; exact if_pos hz
      rw [← hp] at hz hri hre hM ⊢
      have hpb : 0 ≤ p ∧ p < 2000 := by omega
      have hfp := hmk p hri.1 hz
      have efp : f p = mk lv (cf T N) (wdM T N g c) N p := by rw [hf]
      have hw := wy_rg (lv := lv) hab hN.2 ⟨hri.1, hz⟩
      have hA := hab p hri.1 hz
      -- comp and the other at this place
      have cq : ∀ ι : bm_S, ChC ι T N g c lv → CQ ι T N g c p ∧ ι 61 0 p = wy lv (cf T N) (wdM T N g c) N p := fun ι h => by
        have := h (ix + e)
        rw [← hf, ← hp] at this
        exact this hz
      by_cases w0 : wy lv (cf T N) (wdM T N g c) N p = 0
      · -- a literal
        have ef1 : f p = 1 := by rw [efp]; unfold mk; rw [if_pos w0]
        have es : rch f N (ix + (e + 1)) = p + 1 := by rw [show ix + (e + 1) = ix + e + 1 by omega, hs, ef1]
        obtain ⟨n, A', rg', k1, k2, k3, k4, k5⟩ := ih ix (e + 1) m A rg (by rw [es]; omega) (fun j hj => by
          by_cases z : j = e
          · rw [z, ← hp]; exact ⟨hre, hz, w0⟩
          · exact hL j (by omega)) (by rw [es]; omega) hm0 hm4
        rw [es] at k4 k5
        refine ⟨n, A', rg', k1, k2, k3, ?_, ?_⟩
        · intro ι K H hC hCh hG1 h
          obtain ⟨q1, q2⟩ := cq ι hCh
          refine e_P_listCommands_11 (bif_f (by omega) ⟨by omega, bif_t (by rw [q2]; exact w0) ⟨by omega, s_makesAt (lv := lv) hpb q1 q2 ?_⟩⟩)
          rw [← efp, ef1, show (e : Int) + 1 = ((e + 1 : Nat) : Int) by omega, show p + max 1 1 = p + 1 by omega]
          exact ⟨by omega, k4 ι K H hC hCh hG1 h⟩
        · intro ι K H v3 v4 hC h59 hQ hG1 h
          have q := hQ p hri.1 hz
          refine e_M_findCommands_40 (bif_f (by rw [h59]; omega) (m_madeBy hpb hN.2 hz q ?_))
          rw [← efp, ef1, q.2.2.2.2]
          refine ⟨by omega, bif_f (by omega) ⟨by omega, bif_f (by omega) ⟨by omega, bif_t rfl ⟨by omega, by omega, bif_t ?_ (k5 ι K H _ _ hC h59 hQ hG1 h)⟩⟩⟩⟩
          rw [show p + 1 - 1 = p by omega, q.2.2.2.2]; exact w0
      · -- a copy or a word
        have hm5 : m < 501 := by omega
        -- the command itself
        have step : ∀ (x2 d : Int), (2 ≤ x2 ∧ x2 ≤ 200) → (1 ≤ d ∧ d + 3 < 4096) → 4 ≤ f p → ∃ (n : Nat) (A' : Int → Int → Int) (rg' : Int → Int), (∀ w k, k < m → A' w k = A w k) ∧ LSt f (wy lv (cf T N) (wdM T N g c) N) N A' n m ix ∧ 4 * (m + n) ≤ N + 4 ∧
            (∀ (ι : bm_S) (K : bm_S → Prop) (H : Nat × Int → bm_S → Prop), CmC ι m A rg → ChC ι T N g c lv → GCo ι g c → (∀ ι' : bm_S, CmC ι' (m + n) A' rg' → Fr fCm ι ι' → K ι') → bC sc 102 [br 9 0, bi e, bi x2, bi d, bi p] ι (bk0 (fun ι5 => bC sc 99 [br 9 0, bi p] ι5 (bk1 (fun r6 ι6 => (bm_rg (p + max r6 1)) ∧ bW sc 100 11 [br 9 0, bi N, bi 0, bi (p + max r6 1)] [] ι6 (bk0 K H)) H)) H)) ∧
            (∀ (ι : bm_S) (K : bm_S → Prop) (H : Nat × Int → bm_S → Prop), CmM ι m A rg → ι 13 0 59 = N → (∀ q, 0 ≤ q → q < N → WQ ι T N g c lv q) → GMo ι g c → (∀ ι' : bm_S, CmM ι' (m + n) A' rg' → Fr gCm ι ι' → K ι') → ∀ (f5 : Int) (N1 : bm_S → Prop), (f5 = 0 ∨ f5 = 1) → (f5 = 1 ↔ wy lv (cf T N) (wdM T N g c) N p = 1) → (∀ ι5 : bm_S, (∀ v3 v4 : bm_V, bW sc 253 40 [br 13 0, bi (p + f p), bi (p + f p), v3, v4] [] ι5 (bk0 K H)) → N1 ι5) → bC sc 252 [br 13 0, bi e, bi x2, bi d, bi 0, bi f5] ι (bk0 N1 H)) := by
          intro x2 d hx2 hd hf4
          obtain ⟨S, hS⟩ : ∃ S, S = csg (cod ia e 24) (cod ya x2 24) (sgn rg d) := ⟨_, rfl⟩
          obtain ⟨A1, hA1⟩ : ∃ A1, A1 = adA A m e x2 d S (if 128 ≤ S then sgn rg d else -1) (f p) x2 := ⟨_, rfl⟩
          have q := adA_0 (A := A) (m := m) (a0 := e) (a1 := x2) (a2 := d) (a3 := S) (a4 := if 128 ≤ S then sgn rg d else -1) (a5 := f p) (a6 := x2)
          rw [← hA1] at q
          obtain ⟨n, A', rg', k1, k2, k3, k4, k5⟩ := ih (ix + e + 1) 0 (m + 1) A1 (if wy lv (cf T N) (wdM T N g c) N p = 1 ∧ sgn rg d ≠ 0 then rp rg d else rg) (by show N - rch f N (ix + e + 1) < M; rw [hs]; omega) (fun j hj => by omega) (by show rch f N (ix + e + 1) = rch f N (ix + e + 1) + ((0 : Nat) : Int); omega) (by omega) (by rw [hs]; omega)
          have es : rch f N (ix + e + 1 + 0) = p + f p := hs
          rw [es] at k4 k5
          have em : m + 1 + (n : Int) = m + ((n + 1 : Nat) : Int) := by omega
          rw [em] at k4 k5
          refine ⟨n + 1, A', rg', fun w k hk => ?_, ⟨e, ?_, hL, ?_, Or.inr ⟨?_, ?_, ?_, ?_, ?_, ?_, ⟨sgn rg d, sgn_rg hd, ?_, ?_, ?_⟩, k2⟩⟩, by omega, ?_, ?_⟩
          · rw [k1 w k (by omega), hA1]; exact adA_n (by omega)
          · rw [k1 0 m (by omega)]; exact q.1
          · rw [← hp]; exact hre
          · rw [← hp]; exact hz
          · rw [← hp]; exact w0
          · rw [k1 5 m (by omega), ← hp]; exact q.2.2.2.2.2.1
          · rw [k1 6 m (by omega), k1 1 m (by omega), q.2.1]; exact q.2.2.2.2.2.2
          · rw [k1 1 m (by omega), q.2.1]; exact hx2
          · rw [k1 2 m (by omega), q.2.2.1]; exact hd
          · rw [k1 2 m (by omega), q.2.2.1]; exact sgn_16
          · rw [k1 3 m (by omega), k1 1 m (by omega), q.2.1, q.2.2.2.1]; exact hS
          · rw [k1 4 m (by omega), k1 3 m (by omega), q.2.2.2.1]; exact q.2.2.2.2.1
          · intro ι K H hC hCh hG1 h
            obtain ⟨q1, q2⟩ := cq ι hCh
            refine s_addCmd (lv := lv) (X6 := x2) ⟨hm0, hm5⟩ hpb hd hC q1 q2 (fun ι1 C1 F1 => ?_)
            rw [← hS, ← efp, ← hA1] at C1
            refine s_makesAt (lv := lv) hpb (q1.fr F1 (by omega)) (by rw [F1 61 0 p (by omega)]; exact q2) ?_
            rw [← efp, show p + max (f p) 1 = p + f p by omega]
            exact ⟨by omega, k4 ι1 K H C1 (hCh.fr F1 (fun q => by omega)) (hG1.fr F1 (fun j => by omega)) (fun ι2 C2 F2 => h ι2 C2 (F1.trans F2))⟩
          · intro ι K H hC h59 hQ hG1 h f5 N1 hf5 hf5i hN1
            refine m_addCmd (MK := f p) hf5 (by omega) hd hC (fun ι1 C1 F1 => hN1 ι1 (fun v3 v4 => ?_))
            have eR : (if f5 = 1 ∧ sgn rg d ≠ 0 then rp rg d else rg) = (if wy lv (cf T N) (wdM T N g c) N p = 1 ∧ sgn rg d ≠ 0 then rp rg d else rg) := by
              by_cases z : f5 = 1
              · have z2 := hf5i.mp z
                simp only [z, z2]
              · have z2 : ¬ wy lv (cf T N) (wdM T N g c) N p = 1 := fun y => z (hf5i.mpr y)
                rw [if_neg (fun y => z y.1), if_neg (fun y => z2 y.1)]
            rw [← hS, ← hA1, eR] at C1
            exact k5 ι1 K H v3 v4 C1 (by rw [F1 13 0 59 (by omega)]; exact h59) (fun q a b => (hQ q a b).fr F1 (fun t a b => by omega)) ⟨fun k x y => by rw [F1 68 0 k (by omega)]; exact hG1.1 k x y, fun k x y => by rw [F1 69 0 k (by omega)]; exact hG1.2 k x y⟩ (fun ι2 C2 F2 => h ι2 C2 (F1.trans F2))
        rcases hw with hw | ⟨hw, h4⟩ | ⟨hw, h4⟩
        · exact absurd hw w0
        · -- a copy
          have e1 : f p = cf T N p := by rw [efp]; unfold mk; rw [if_neg w0, if_pos hw]
          have hd := df_rg (T := T) ⟨hri.1, hz⟩ hN.2 (by omega)
          have h2 := cf_200 (T := T) ⟨hri.1, hz⟩
          obtain ⟨n, A', rg', k1, k2, k3, k4, k5⟩ := step (cf T N p) (df T N p) (by omega) (by omega) (by omega)
          refine ⟨n, A', rg', k1, k2, k3, ?_, ?_⟩
          · intro ι K H hC hCh hG1 h
            obtain ⟨q1, q2⟩ := cq ι hCh
            refine e_P_listCommands_11 (bif_f (by omega) ⟨by omega, bif_f (by rw [q2]; exact w0) ⟨by omega, bif_t (by rw [q2]; exact hw) ⟨by omega, by omega, ?_⟩⟩⟩)
            rw [q1.1, q1.2.1]
            exact k4 ι K H hC hCh hG1 h
          · intro ι K H v3 v4 hC h59 hQ hG1 h
            have q := hQ p hri.1 hz
            refine e_M_findCommands_40 (bif_f (by rw [h59]; omega) (m_madeBy hpb hN.2 hz q ?_))
            rw [← efp, q.2.2.2.2]
            refine ⟨by omega, bif_t hw ⟨by omega, by omega, by omega, ?_⟩⟩
            rw [q.1, q.2.1 (by omega), show p - rch f N ix = e by omega]
            exact k5 ι K H hC h59 hQ hG1 h 1 _ (Or.inr rfl) ⟨fun _ => hw, fun _ => rfl⟩ (fun ι5 hh => ⟨by omega, bif_f (by omega) (hh _ _)⟩)
        · -- a word
          have e1 : f p = wdM T N g c p := by rw [efp]; unfold mk; rw [if_neg w0, if_neg (by omega)]
          have hk := wdK_rg (T := T) (N := N) (g := g) (c := c) (p := p)
          obtain ⟨kk, hkk⟩ : ∃ kk, kk = wdK T N g c p := ⟨_, rfl⟩
          rw [← hkk] at hk
          obtain ⟨bb, hbb⟩ : ∃ bb, bb = wbits (c (4 + kk / 24 / 32)) := ⟨_, rfl⟩
          have hc := hG.2 (4 + kk / 24 / 32) (by omega) (by omega)
          have hbr := wbits_rg (c (4 + kk / 24 / 32))
          rw [← hbb] at hbr
          have hp2 : 1 ≤ bm_p2 bb ∧ bm_p2 bb ≤ 32 := by
            have : bb = 0 ∨ bb = 1 ∨ bb = 2 ∨ bb = 3 ∨ bb = 4 ∨ bb = 5 := by omega
            rcases this with r | r | r | r | r | r <;> rw [r] <;> decide
          have hpr : 0 ≤ kk % 24 * bm_p2 bb ∧ kk % 24 * bm_p2 bb ≤ 23 * 32 := ⟨Int.mul_nonneg (by omega) (by omega), Int.mul_le_mul (by omega) hp2.2 (by omega) (by omega)⟩
          obtain ⟨n, A', rg', k1, k2, k3, k4, k5⟩ := step (4 + kk / 24 / 32) (p + 1 + (kk / 24 % 32 + kk % 24 * bm_p2 bb)) (by omega) (by omega) (by omega)
          refine ⟨n, A', rg', k1, k2, k3, ?_, ?_⟩
          · intro ι K H hC hCh hG1 h
            obtain ⟨q1, q2⟩ := cq ι hCh
            refine e_P_listCommands_11 (bif_f (by omega) ⟨by omega, bif_f (by rw [q2]; exact w0) ⟨by omega, bif_f (by rw [q2]; omega) (e_P_addWord_0 ?_)⟩⟩)
            rw [q1.2.2.2, ← hkk]
            refine ⟨by omega, by omega, by omega, by omega, by omega, by omega, by omega, s_bitsFor (v := c (4 + kk / 24 / 32)) (by rw [if_pos ⟨by omega, by omega⟩, hG1.2 _ (by omega) (by omega)]) hc.2 ?_⟩
            rw [← hbb]
            exact ⟨⟨by omega, by omega⟩, by omega, by omega, by omega, k4 ι K H hC hCh hG1 h⟩
          · intro ι K H v3 v4 hC h59 hQ hG1 h
            have q := hQ p hri.1 hz
            refine e_M_findCommands_40 (bif_f (by rw [h59]; omega) (m_madeBy hpb hN.2 hz q ?_))
            have qw := q.2.2.2.1 (by omega)
            rw [← hkk] at qw
            rw [← efp, q.2.2.2.2]
            refine ⟨by omega, bif_f (by omega) ⟨by omega, bif_t hw ⟨by omega, by omega, ?_⟩⟩⟩
            rw [qw.1, qw.2.2]
            refine m_bitsOf (v := c (4 + kk / 24 / 32)) (by omega) (hG1.2 _ (by omega) (by omega)).symm hc.2 ?_
            rw [← hbb, qw.2.1, qw.1, show p - rch f N ix = e by omega, show kk % 24 * bm_p2 bb + kk / 24 % 32 = kk / 24 % 32 + kk % 24 * bm_p2 bb by omega]
            refine ⟨⟨by omega, by omega⟩, by omega, by omega, by omega, by omega, by omega, by omega, ?_⟩
            exact k5 ι K H hC h59 hQ hG1 h 0 _ (Or.inl rfl) ⟨fun y => by omega, fun y => by omega⟩ (fun ι5 hh => ⟨by omega, bif_f (by omega) (hh _ _)⟩)
    · -- the end
      have hN1 : rch f N (ix + e) = N := by omega
      rw [hN1]
      by_cases he : e = 0
      · refine ⟨0, A, rg, fun _ _ _ => rfl, ?_, by omega, ?_, ?_⟩
        · show rch f N ix = N; omega
        · intro ι K H hC hCh hG1 h
          refine e_P_listCommands_11 (bif_t (by omega) (bif_t (by omega) (h ι ?_ (Fr.refl _ _))))
          rw [show m + ((0 : Nat) : Int) = m by omega]; exact hC
        · intro ι K H v3 v4 hC h59 hQ hG1 h
          refine e_M_findCommands_40 (bif_t (by omega) (bif_t (by omega) (h ι ?_ (Fr.refl _ _))))
          rw [show m + ((0 : Nat) : Int) = m by omega]; exact hC
      · have hm5 : m < 501 := by omega
        obtain ⟨S, hS⟩ : ∃ S, S = csg (cod ia e 24) 0 (-1) := ⟨_, rfl⟩
        have q := adA_0 (A := A) (m := m) (a0 := e) (a1 := 0) (a2 := 0) (a3 := S) (a4 := -1) (a5 := 0) (a6 := 2)
        refine ⟨1, adA A m e 0 0 S (-1) 0 2, rg, fun w k hk => adA_n (by omega), ⟨e, q.1, hL, hre, Or.inl ⟨rfl, by omega, hN1, q.2.1, q.2.2.1, ?_, q.2.2.2.2.1, q.2.2.2.2.2.1, q.2.2.2.2.2.2⟩⟩, by omega, ?_, ?_⟩
        · rw [q.2.2.2.1]; exact hS
        · intro ι K H hC hCh hG1 h
          refine e_P_listCommands_11 (bif_t (by omega) (bif_f (by omega) (bif_f (by rw [hC.1]; omega) ?_)))
          rw [hC.1]
          refine ⟨by omega, by omega, by omega, s_codeOf200 (s_cmdSign (cod24 ia e) (by omega) ?_)⟩
          rw [← hS]
          simp (disch := omega) only [up_s, up_k, up_j, hC.1]
          exact ⟨by omega, by omega, by omega, by omega, h _ hC.add F_addC⟩
        · intro ι K H v3 v4 hC h59 hQ hG1 h
          refine e_M_findCommands_40 (bif_t (by omega) (bif_f (by omega) ⟨by omega, ?_⟩))
          rw [h59, show N - rch f N ix = e by omega]
          refine m_addEnd (MK := 0) (by omega) hC (fun ι1 C1 F1 => h ι1 ?_ F1)
          rw [← hS] at C1; exact C1
end List2
