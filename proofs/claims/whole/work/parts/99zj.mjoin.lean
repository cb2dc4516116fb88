/-! pack: the other joins -/
section MJoin
variable {sc : bm_Sc} {a n : Int} {w o : Int → Int}
def nu (o : Int → Int) (a n c : Int) : Int := if c < n then o c else a + (c - n)
theorem nu_l {c : Int} (h : c < n) : nu o a n c = o c := if_pos h
theorem nu_r {c : Int} (h : n ≤ c) : nu o a n c = a + (c - n) := if_neg (by omega)
theorem nu_rg (hn : 2 ≤ n ∧ n ≤ a) (hO : OR w a n o) {c : Int} (h0 : 0 ≤ c) : 0 ≤ nu o a n c ∧ (c < n → nu o a n c < a) ∧ (n ≤ c → a ≤ nu o a n c) ∧ nu o a n c ≤ a + max 0 (c - n) := by
  by_cases z : c < n
  · have := hO.1.1 c h0 z
    rw [nu_l z]; omega
  · rw [nu_r (by omega)]; omega
theorem nu_inj (hO : OR w a n o) {c d : Int} (h0 : 0 ≤ c) (h1 : 0 ≤ d) (h : nu o a n c = nu o a n d) : c = d := by
  by_cases z : c < n
  · by_cases y : d < n
    · rw [nu_l z, nu_l y] at h; exact hO.1.2.1 c d h0 z h1 y h
    · rw [nu_l z, nu_r (by omega)] at h; have := hO.1.1 c h0 z; omega
  · by_cases y : d < n
    · rw [nu_r (by omega), nu_l y] at h; have := hO.1.1 d h1 y; omega
    · rw [nu_r (by omega), nu_r (by omega)] at h; omega
theorem OR_lt (hO : OR w a n o) {p : Int} (h0 : 0 ≤ p) : ∀ d : Nat, p + d + 1 < n → wlt w (o p) (o (p + d + 1))
  | 0, h => by rw [show p + ((0 : Nat) : Int) + 1 = p + 1 by omega]; exact hO.2 p h0 (by omega)
  | d + 1, h => by
    have a1 := OR_lt hO h0 d (by omega)
    have a2 := hO.2 (p + d + 1) (by omega) (by omega)
    rw [show p + ((d + 1 : Nat) : Int) + 1 = p + d + 1 + 1 by omega]
    exact wlt_tr a1 a2
/-- which are open -/
def OM (ι : bm_S) (w o : Int → Int) (a n : Int) (u t : Nat) : Prop := (∀ c, 0 ≤ c → c < n + t → (tkn (fun k => w (o k)) n u c → ι 92 0 (nu o a n c) = 0) ∧ (¬ tkn (fun k => w (o k)) n u c → ι 92 0 (nu o a n c) = 1)) ∧ ∀ k, 0 ≤ k → k < a → ι 92 0 k ≠ 0 → ∃ c, 0 ≤ c ∧ c < n ∧ k = o c
def WM (ι : bm_S) (w o : Int → Int) (a n : Int) (t : Nat) : Prop := ∀ c, 0 ≤ c → c < n + t → ι 90 0 (nu o a n c) = hW (fun k => w (o k)) n c
theorem m_least4 {ι : bm_S} {K : Int → bm_S → Prop} {H : Nat × Int → bm_S → Prop} {N b : Int} (hN : N ≤ 1500) (hb : 0 ≤ b ∧ b < N) (ho : ι 92 0 b ≠ 0) (hm : ∀ k, 0 ≤ k → k < N → k ≠ b → ι 92 0 k ≠ 0 → ι 90 0 b < ι 90 0 k ∨ (ι 90 0 b = ι 90 0 k ∧ b < k)) (h : K b ι) : ∀ (m : Nat) (k x : Int), k + m = N → 0 ≤ k → (b < k → x = b) → (k ≤ b → x = -1 ∨ (0 ≤ x ∧ x < k ∧ ι 92 0 x ≠ 0)) → bW sc 237 4 [br 13 0, bi N, bi x, bi k] [] ι (bk1 K H)
  | 0, k, x, hk, k0, h1, h2 => e_M_leastOpen_4 (bif_t (by omega) (by rw [h1 (by omega)]; exact h))
  | m + 1, k, x, hk, k0, h1, h2 => by
    refine e_M_leastOpen_4 (bif_f (by omega) ⟨by omega, bif_i (fun z => ⟨by omega, ?_⟩) (fun z => bif_i (fun y => ⟨by omega, ?_⟩) (fun y => ⟨by omega, ?_, bif_i (fun q => ⟨by omega, ?_⟩) (fun q => ⟨by omega, ?_⟩)⟩))⟩)
    · refine m_least4 hN hb ho hm h m (k + 1) x (by omega) (by omega) (fun y => ?_) (fun y => ?_)
      · by_cases e : k = b
        · rw [e] at z; exact absurd z ho
        · exact h1 (by omega)
      · rcases h2 (by omega) with e | e
        · exact Or.inl e
        · exact Or.inr ⟨e.1, by omega, e.2.2⟩
    · refine m_least4 hN hb ho hm h m (k + 1) k (by omega) (by omega) (fun q => ?_) (fun q => Or.inr ⟨k0, by omega, z⟩)
      by_cases e : b < k
      · have := h1 e; omega
      · omega
    · by_cases e : b < k
      · have := h1 e; omega
      · rcases h2 (by omega) with e | e <;> omega
    · refine m_least4 hN hb ho hm h m (k + 1) x (by omega) (by omega) (fun p => ?_) (fun p => ?_)
      · by_cases e : k = b
        · rcases h2 (by omega) with e2 | e2
          · omega
          · have := hm x e2.1 (by omega) (by omega) e2.2.2
            rw [e] at q; omega
        · exact h1 (by omega)
      · rcases h2 (by omega) with e | e
        · omega
        · exact Or.inr ⟨e.1, by omega, e.2.2⟩
    · refine m_least4 hN hb ho hm h m (k + 1) k (by omega) (by omega) (fun p => ?_) (fun p => Or.inr ⟨k0, by omega, z⟩)
      by_cases e : k = b
      · exact e
      · have e1 := h1 (by omega)
        rw [e1] at q
        have := hm k k0 (by omega) e z
        omega
theorem m_least {ι : bm_S} {K : Int → bm_S → Prop} {H : Nat × Int → bm_S → Prop} {N b : Int} (hN : N ≤ 1500) (hb : 0 ≤ b ∧ b < N) (ho : ι 92 0 b ≠ 0) (hm : ∀ k, 0 ≤ k → k < N → k ≠ b → ι 92 0 k ≠ 0 → ι 90 0 b < ι 90 0 k ∨ (ι 90 0 b = ι 90 0 k ∧ b < k)) (h : K b ι) : bC sc 237 [br 13 0, bi N] ι (bk1 K H) := e_M_leastOpen_0 (m_least4 hN hb ho hm h N.toNat 0 (-1) (by omega) (by omega) (fun y => by omega) (fun y => Or.inl rfl))
theorem hW_l (h : VR (fun k => w (o k)) n) {c : Int} (hc : c < n) : hW (fun k => w (o k)) n c = w (o c) := hW_of h (u := 0) (by show c < n + ((0 : Nat) : Int) / 2; omega) (by have := h.1; omega)
theorem m_pick {ι : bm_S} {K : Int → bm_S → Prop} {H : Nat × Int → bm_S → Prop} {u t : Nat} (ha : a ≤ 704) (hn : 2 ≤ n ∧ n ≤ a) (hO : OR w a n o) (hu : (u : Int) + 2 < 2 * n) (hut : t = u / 2) (h1 : OM ι w o a n u t) (h2 : WM ι w o a n t) (h : K (nu o a n (tn (fun k => w (o k)) n u)) ι) : bC sc 237 [br 13 0, bi (a + t)] ι (bk1 K H) := by
  have hV := hO.VR hn.1
  have hI := hV.HI (u := u) (by omega)
  have hor := tn_or (by omega) hI
  have e1 := hI.1
  have hwu : ∀ c, c < n + t → (ht (fun k => w (o k)) n u).2 c = hW (fun k => w (o k)) n c := fun c hc => (hW_of hV (by omega) (by omega)).symm
  obtain ⟨i, hi⟩ : ∃ i, i = (ht (fun k => w (o k)) n u).1 := ⟨_, rfl⟩
  obtain ⟨c, hc⟩ : ∃ c, c = tn (fun k => w (o k)) n u := ⟨_, rfl⟩
  rw [← hi] at hor e1
  rw [← hc] at hor h
  have htk : ∀ d, tkn (fun k => w (o k)) n u d ↔ (0 ≤ d ∧ d < i) ∨ (n ≤ d ∧ d < n + u - i) := fun d => by unfold tkn; rw [← hi]
  have hc0 : 0 ≤ c ∧ c < n + t ∧ ¬ tkn (fun k => w (o k)) n u c := by
    rw [htk]
    rcases hor with ⟨e, a, b⟩ | ⟨e, a, b, d⟩ <;> omega
  have hr := nu_rg hn hO hc0.1
  refine m_least (b := nu o a n c) (by omega) ⟨hr.1, by omega⟩ (by rw [(h1.1 c hc0.1 hc0.2.1).2 hc0.2.2]; omega) (fun k k0 k1 k2 k3 => ?_) h
  -- which one is it
  have : ∃ d, 0 ≤ d ∧ d < n + t ∧ k = nu o a n d := by
    by_cases z : k < a
    · obtain ⟨d, d0, d1, d2⟩ := h1.2 k k0 z k3
      exact ⟨d, d0, by omega, by rw [nu_l d1]; exact d2⟩
    · exact ⟨n + (k - a), by omega, by omega, by rw [nu_r (by omega)]; omega⟩
  obtain ⟨d, d0, d1, d2⟩ := this
  have hdt : ¬ tkn (fun k => w (o k)) n u d := fun y => k3 (by rw [d2]; exact (h1.1 d d0 d1).1 y)
  have hdc : d ≠ c := fun y => k2 (by rw [d2, y])
  rw [d2, h2 c hc0.1 hc0.2.1, h2 d d0 d1]
  rw [htk] at hdt
  have hrd := nu_rg hn hO d0
  -- joined ones rise
  have hmon : ∀ (p : Int) (e : Nat), n ≤ p → p + e < n + t → hW (fun k => w (o k)) n p ≤ hW (fun k => w (o k)) n (p + e) := by
    intro p e
    induction e with
    | zero => intro _ _; rw [show p + ((0 : Nat) : Int) = p by omega]; exact Int.le_refl _
    | succ e ih =>
      intro hp hpe
      have a1 := ih hp (by omega)
      have a2 := hI.2.2.1 (p + e) (by omega) (by omega)
      rw [hwu _ (by omega), hwu _ (by omega)] at a2
      rw [show p + ((e + 1 : Nat) : Int) = p + e + 1 by omega]
      omega
  rcases hor with ⟨ec, ai, b⟩ | ⟨ec, aj, b, dd⟩
  · rw [ec] at hdc hr ⊢
    rw [hW_l hV ai]
    by_cases z : d < n
    · rw [hW_l hV z, nu_l ai, nu_l z]
      have := OR_lt hO e1.1 (d - i - 1).toNat (by omega)
      rw [show i + ((d - i - 1).toNat : Int) + 1 = d by omega] at this
      exact this
    · have b' := b (by omega)
      rw [hwu _ (by omega), hwu _ (by omega), hW_l hV ai] at b'
      have := hmon (n + u - i) (d - (n + u - i)).toNat (by omega) (by omega)
      rw [show n + u - i + ((d - (n + u - i)).toNat : Int) = d by omega] at this
      omega
  · rw [ec] at hdc hr ⊢
    by_cases z : d < n
    · have b' := dd (by omega)
      rw [hwu _ (by omega), hwu _ (by omega), hW_l hV (c := i) (by omega)] at b'
      rw [hW_l hV z]
      by_cases y : d = i
      · rw [y]; omega
      · have := OR_lt hO e1.1 (d - i - 1).toNat (by omega)
        rw [show i + ((d - i - 1).toNat : Int) + 1 = d by omega] at this
        unfold wlt at this
        omega
    · have := hmon (n + u - i) (d - (n + u - i)).toNat (by omega) (by omega)
      rw [show n + u - i + ((d - (n + u - i)).toNat : Int) = d by omega] at this
      have e3 : nu o a n (n + u - i) = a + (n + u - i - n) := nu_r (by omega)
      have e4 : nu o a n d = a + (d - n) := nu_r (by omega)
      omega
theorem OM.take {ι : bm_S} {u t : Nat} (hn : 2 ≤ n ∧ n ≤ a) (hO : OR w a n o) (hu : (u : Int) + 2 < 2 * n) (hut : t = u / 2) (h1 : OM ι w o a n u t) : OM (up ι 92 0 (nu o a n (tn (fun k => w (o k)) n u)) 0) w o a n (u + 1) t := by
  have hV := hO.VR hn.1
  have hI := hV.HI (u := u) (by omega)
  have hor := tn_or (by omega) hI
  have e1 := hI.1
  have e2 := ht_i (v := fun k => w (o k)) (n := n) u
  obtain ⟨c, hc⟩ : ∃ c, c = tn (fun k => w (o k)) n u := ⟨_, rfl⟩
  rw [← hc] at hor e2 ⊢
  have htk : ∀ d, tkn (fun k => w (o k)) n (u + 1) d ↔ (tkn (fun k => w (o k)) n u d ∨ d = c) := fun d => by
    unfold tkn
    rcases hor with ⟨e, a, b⟩ | ⟨e, a, b, dd⟩
    · rw [e, if_pos a] at e2; omega
    · rw [e, if_neg (by omega)] at e2; omega
  have hc0 : 0 ≤ c := by rcases hor with ⟨e, a, b⟩ | ⟨e, a, b, dd⟩ <;> omega
  refine ⟨fun d d0 d1 => ?_, fun k k0 k1 k2 => ?_⟩
  · rw [htk]
    by_cases z : d = c
    · rw [z, up_s]; exact ⟨fun _ => rfl, fun y => absurd (Or.inr rfl) y⟩
    · rw [up_j (fun e => z (nu_inj hO d0 hc0 e))]
      have := h1.1 d d0 d1
      exact ⟨fun y => this.1 (y.resolve_right z), fun y => this.2 (fun q => y (Or.inl q))⟩
  · by_cases z : k = nu o a n c
    · rw [z, up_s] at k2; exact absurd rfl k2
    · rw [up_j z] at k2; exact h1.2 k k0 k1 k2
end MJoin
