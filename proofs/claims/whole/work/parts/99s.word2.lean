/-! pack: comp's search for the word of a place -/
section FindWord2
variable {sc : bm_Sc} {ι : bm_S} {H : Nat × Int → bm_S → Prop} {T : Int → Int} {N : Int} {g c : Int → Int} {K : bm_S → Prop}
/-- the best of the words of S -/
def Wst (z : Int → Int) (S : Int → Prop) (A B : Int) : Prop := (A = 0 ∧ B = 0 ∧ ∀ k, 0 ≤ k → k < 5376 → S k → z k = 0) ∨ (0 < A ∧ z B = A ∧ 0 ≤ B ∧ B < 5376 ∧ (∀ k, 0 ≤ k → k < 5376 → S k → z k ≤ A) ∧ ∀ k, 0 ≤ k → k < B → S k → z k < A)
theorem Wst.more {z : Int → Int} {S S' : Int → Prop} {A B : Int} (h : Wst z S A B) (hS : ∀ k, 0 ≤ k → k < 5376 → S' k → S k ∨ z k = 0) : Wst z S' A B := by
  rcases h with ⟨h1, h2, h3⟩ | ⟨h1, h2, h3, h4, h5, h6⟩
  · refine Or.inl ⟨h1, h2, fun k a b s => ?_⟩
    rcases hS k a b s with q | q
    · exact h3 k a b q
    · exact q
  · refine Or.inr ⟨h1, h2, h3, h4, fun k a b s => ?_, fun k a b s => ?_⟩
    · rcases hS k a b s with q | q
      · exact h5 k a b q
      · omega
    · rcases hS k a (by omega) s with q | q
      · exact h6 k a b q
      · omega
theorem s_offer {z : Int → Int} {S : Int → Prop} {p be co a : Int} (hp : 0 ≤ p ∧ p < 2000) (hbe : p ≤ be ∧ be ≤ 3000) (hco : 0 ≤ co ∧ co < 1344) (ha : 0 ≤ a ∧ a ≤ 3) (hW : Wst z S (ι 37 0 p) (ι 38 0 p)) (hz : (4 ≤ be - p → z (co / 6 * 24 + 6 * a + co % 6) = be - p) ∧ (be - p < 4 → z (co / 6 * 24 + 6 * a + co % 6) = 0)) (h : ∀ ι' : bm_S, Wst z (fun k => S k ∨ k = co / 6 * 24 + 6 * a + co % 6) (ι' 37 0 p) (ι' 38 0 p) → Fr (fun t i j => (t = 37 ∨ t = 38) ∧ j = p) ι ι' → K ι') : bC sc 61 [br 6 0, bi p, bi be, bi co, bi a] ι (bk0 K H) := by
  obtain ⟨y, hy⟩ : ∃ y, y = co / 6 * 24 + 6 * a + co % 6 := ⟨_, rfl⟩
  rw [← hy] at hz h
  have hyr : 0 ≤ y ∧ y < 5376 := by omega
  have set : bm_S := ι
  have F1 : Fr (fun t i j => (t = 37 ∨ t = 38) ∧ j = p) ι (up (up ι 37 0 p (be - p)) 38 0 p y) := ((Fr.refl _ _).u (by omega)).u (by omega)
  have new : Wst z (fun k => S k ∨ k = y) (be - p) y → K (up (up ι 37 0 p (be - p)) 38 0 p y) := fun w => h _ (by simp (disch := omega) only [up_s, up_k, up_j, up_i]; exact w) F1
  refine e_F_offer_0 ?_
  rw [← hy]
  refine ⟨by omega, by omega, by omega, by omega, by omega, by omega, by omega, bif_i (fun c1 => ?_) (fun c1 => ⟨by omega, bif_i (fun c2 => ⟨by omega, bif_i (fun c3 => ⟨by omega, by omega, new ?_⟩) (fun c3 => ⟨by omega, bif_i (fun c4 => ?_) (fun c4 => ⟨by omega, by omega, new ?_⟩)⟩)⟩) (fun c2 => ?_)⟩)⟩
  · refine h ι (hW.more (fun k _ _ s => ?_)) (Fr.refl _ _)
    rcases s with s | s
    · exact Or.inl s
    · rw [s]; exact Or.inr (hz.2 c1)
  · have ez := hz.1 (by omega)
    refine Or.inr ⟨by omega, ez, hyr.1, hyr.2, fun k k0 k1 s => ?_, fun k k0 k1 s => ?_⟩
    · rcases s with s | s
      · rcases hW with ⟨q1, q2, q3⟩ | ⟨q1, q2, q3, q4, q5, q6⟩
        · have := q3 k k0 k1 s; omega
        · have := q5 k k0 k1 s; omega
      · rw [s]; omega
    · rcases s with s | s
      · rcases hW with ⟨q1, q2, q3⟩ | ⟨q1, q2, q3, q4, q5, q6⟩
        · have := q3 k k0 (by omega) s; omega
        · have := q5 k k0 (by omega) s; omega
      · omega
  · have ez := hz.1 (by omega)
    refine h ι ?_ (Fr.refl _ _)
    rcases hW with ⟨q1, q2, q3⟩ | ⟨q1, q2, q3, q4, q5, q6⟩
    · omega
    · refine Or.inr ⟨q1, q2, q3, q4, fun k k0 k1 s => ?_, fun k k0 k1 s => ?_⟩
      · rcases s with s | s
        · exact q5 k k0 k1 s
        · rw [s]; omega
      · rcases s with s | s
        · exact q6 k k0 k1 s
        · omega
  · have ez := hz.1 (by omega)
    rcases hW with ⟨q1, q2, q3⟩ | ⟨q1, q2, q3, q4, q5, q6⟩
    · omega
    · refine Or.inr ⟨by omega, ez, hyr.1, hyr.2, fun k k0 k1 s => ?_, fun k k0 k1 s => ?_⟩
      · rcases s with s | s
        · have := q5 k k0 k1 s; omega
        · rw [s]; omega
      · rcases s with s | s
        · have := q6 k k0 (by omega) s; omega
        · omega
  · have ez := hz.1 (by omega)
    refine h ι ?_ (Fr.refl _ _)
    rcases hW with ⟨q1, q2, q3⟩ | ⟨q1, q2, q3, q4, q5, q6⟩
    · omega
    · refine Or.inr ⟨q1, q2, q3, q4, fun k k0 k1 s => ?_, fun k k0 k1 s => ?_⟩
      · rcases s with s | s
        · exact q5 k k0 k1 s
        · rw [s]; omega
      · rcases s with s | s
        · exact q6 k k0 k1 s
        · rw [s]; omega
/-- the core co stands at st -/
def cmt (T : Int → Int) (g : Int → Int) (co st : Int) : Prop := ∀ i, 0 ≤ i → i < csz (4 + co / 6 / 32) (co % 6) → cby g (4 + co / 6 / 32) (co / 6 % 32) (co % 6) i = T (st + i)
def cval (c : Int → Int) (co : Int) : Prop := co / 6 % 32 < c (4 + co / 6 / 32)
def hcb (g : Int → Int) (co : Int) : Int := (33 * (cby g (4 + co / 6 / 32) (co / 6 % 32) (co % 6) 0 % 256) + cby g (4 + co / 6 / 32) (co / 6 % 32) (co % 6) 1 % 256) % 256
def hc (g c : Int → Int) (co : Int) : Int := if co / 6 % 32 < c (4 + co / 6 / 32) then hcb g co else -1
theorem cby_rg {n w how i : Int} (hG : GV g c) (hn : 4 ≤ n ∧ n ≤ 10) (hw : 0 ≤ w ∧ w < 32) (hi : 0 ≤ i ∧ i < 10) (hi3 : how = 3 → i < 9) : -128 ≤ cby g n w how i ∧ cby g n w how i < 128 := by
  unfold cby
  have h1 := hG.1 (320 * (n - 4) + 10 * w + i) (by omega) (by omega)
  by_cases q : (how = 2 ∨ how = 1 ∧ i = 0) ∧ 97 ≤ g (320 * (n - 4) + 10 * w + i) ∧ g (320 * (n - 4) + 10 * w + i) ≤ 122
  · rw [if_pos q]; omega
  · rw [if_neg q]
    by_cases q3 : how = 3
    · rw [if_pos q3]; exact hG.1 _ (by omega) (by have := hi3 q3; omega)
    · rw [if_neg q3]; exact hG.1 _ (by omega) (by omega)
theorem cby_ext {g' : Int → Int} {n w how i : Int} (h : ∀ k, 0 ≤ k → k < 2240 → g' k = g k) (hn : 4 ≤ n ∧ n ≤ 10) (hw : 0 ≤ w ∧ w < 32) (hi : 0 ≤ i ∧ i < 10) (hi3 : how = 3 → i < 9) : cby g' n w how i = cby g n w how i := by
  unfold cby
  rw [h (320 * (n - 4) + 10 * w + i) (by omega) (by omega)]
  by_cases q3 : how = 3
  · rw [if_pos q3, h _ (by omega) (by have := hi3 q3; omega)]
  · rw [if_neg q3, h _ (by omega) (by omega)]
theorem co_rg {co : Int} (h : 0 ≤ co ∧ co < 1344) : (4 ≤ 4 + co / 6 / 32 ∧ 4 + co / 6 / 32 ≤ 10) ∧ (0 ≤ co / 6 % 32 ∧ co / 6 % 32 < 32) ∧ (0 ≤ co % 6 ∧ co % 6 < 6) := by omega
theorem s_core {K : Int → bm_S → Prop} {n w how i : Int} (hG : GV g c) (hG1 : GCo ι g c) (hn : 4 ≤ n ∧ n ≤ 10) (hw : 0 ≤ w ∧ w < 32) (hi : 0 ≤ i ∧ i < 10) (hi3 : how = 3 → i < 9) (hh : 0 ≤ how) (h : K (cby g n w how i % 256) ι) : bC sc 116 [br 10 0, bi n, bi w, bi how, bi i] ι (bk1 K H) := by
  refine s_coreByte hn hw hi hi3 hh (fun k x y => by rw [hG1.1 k x y]; exact hG.1 k x y) ?_
  rw [cby_ext (fun k x y => hG1.1 k x y) hn hw hi hi3]
  exact h
theorem s_isCore23 {K : Int → bm_S → Prop} {co st : Int} (hN : N ≤ 2000) (hG : GV g c) (hG1 : GCo ι g c) (hT : TCo ι T N) (hTr : ∀ k, 0 ≤ k → k < N → -128 ≤ T k ∧ T k < 128) (hco : 0 ≤ co ∧ co < 1344) (hst : 0 ≤ st) (hl : st + csz (4 + co / 6 / 32) (co % 6) ≤ N) (h1 : cmt T g co st → K 1 ι) (h0 : ¬ cmt T g co st → K 0 ι) : ∀ (m : Nat) (x : Int), x = csz (4 + co / 6 / 32) (co % 6) - m → 0 ≤ x → (∀ i, 0 ≤ i → i < x → cby g (4 + co / 6 / 32) (co / 6 % 32) (co % 6) i = T (st + i)) → bW sc 59 23 [br 6 0, bi co, bi st, bi (st + csz (4 + co / 6 / 32) (co % 6)), bi (4 + co / 6 / 32), bi (co / 6 % 32), bi (st + x)] [] ι (bk1 K H)
  | 0, x, hx, x0, hm => e_F_isCore_23 (bif_t (by omega) ⟨by omega, h1 (fun i a b => hm i a (by omega))⟩)
  | m + 1, x, hx, x0, hm => by
    obtain ⟨r1, r2, r3⟩ := co_rg hco
    have hc1 := csz_rg (how := co % 6) r1
    refine e_F_isCore_23 (bif_f (by omega) ⟨by omega, by omega, ?_⟩)
    rw [show st + x - st = x by omega]
    have hi3 : co % 6 = 3 → x < 9 := fun q => by have := hc1.2.2 q; omega
    have hb := cby_rg (c := c) hG r1 r2 (i := x) (by omega) hi3
    have ht := hTr (st + x) (by omega) (by omega)
    refine s_core hG hG1 r1 r2 (by omega) hi3 r3.1 (s_tb (T := T) (by omega) hT ?_)
    have et : tb T N (st + x) = T (st + x) % 256 := by unfold tb; rw [if_neg (by omega)]
    rw [et]
    refine bif_i (fun e => ⟨by omega, ?_⟩) (fun e => ⟨by omega, h0 (fun q => e (by rw [q x x0 (by omega)]))⟩)
    rw [show st + x + 1 = st + (x + 1) by omega]
    refine s_isCore23 hN hG hG1 hT hTr hco hst hl h1 h0 m (x + 1) (by omega) (by omega) (fun i a b => ?_)
    by_cases q : i = x
    · rw [q]; omega
    · exact hm i a (by omega)
theorem s_isCore {K : Int → bm_S → Prop} {co st : Int} (hN : N ≤ 2000) (hG : GV g c) (hG1 : GCo ι g c) (hT : TCo ι T N) (hTr : ∀ k, 0 ≤ k → k < N → -128 ≤ T k ∧ T k < 128) (hco : 0 ≤ co ∧ co < 1344) (hst : 0 ≤ st) (hl : st + csz (4 + co / 6 / 32) (co % 6) ≤ N) (h1 : cmt T g co st → K 1 ι) (h0 : ¬ cmt T g co st → K 0 ι) : bC sc 59 [br 6 0, bi co, bi st, bi (st + csz (4 + co / 6 / 32) (co % 6))] ι (bk1 K H) := by
  obtain ⟨r1, r2, r3⟩ := co_rg hco
  have hc1 := csz_rg (how := co % 6) r1
  have q := s_isCore23 (sc := sc) (H := H) hN hG hG1 hT hTr hco hst hl h1 h0 (csz (4 + co / 6 / 32) (co % 6)).toNat 0 (by omega) (by omega) (fun i a b => by omega)
  rw [show st + 0 = st by omega] at q
  exact e_F_isCore_0 ⟨by omega, by omega, by omega, by omega, by omega, q⟩
/-- what the changed words of a core give -/
theorem chb_a {n w how a i : Int} (hh : 0 ≤ how ∧ how < 6) (ha : 0 ≤ a) : chb g n w (6 * a + how) i = if 0 ≤ (if a = 2 then i - 1 else i) ∧ (if a = 2 then i - 1 else i) < csz n how then cby g n w how (if a = 2 then i - 1 else i) else if a = 3 ∧ (if a = 2 then i - 1 else i) = csz n how then 44 else 32 := by
  unfold chb
  rw [show (6 * a + how) / 6 = a by omega, show (6 * a + how) % 6 = how by omega]
theorem chb_n {n w how a i : Int} (hh : 0 ≤ how ∧ how < 6) (ha : 0 ≤ a) (h2 : a ≠ 2) : chb g n w (6 * a + how) i = if 0 ≤ i ∧ i < csz n how then cby g n w how i else if a = 3 ∧ i = csz n how then 44 else 32 := by
  rw [chb_a hh ha]
  simp only [if_neg h2]
theorem chb_2 {n w how i : Int} (hh : 0 ≤ how ∧ how < 6) : chb g n w (6 * 2 + how) i = if 0 ≤ i - 1 ∧ i - 1 < csz n how then cby g n w how (i - 1) else 32 := by
  rw [chb_a hh (by omega)]
  simp only [if_true]
  by_cases q : 0 ≤ i - 1 ∧ i - 1 < csz n how
  · rw [if_pos q, if_pos q]
  · rw [if_neg q, if_neg q, if_neg (by omega)]
theorem chs_a {n how a : Int} (hh : 0 ≤ how ∧ how < 6) (ha : 0 ≤ a) : chs n (6 * a + how) = csz n how + asz a := by
  unfold chs
  rw [show (6 * a + how) / 6 = a by omega, show (6 * a + how) % 6 = how by omega]
variable {p : Int}
theorem wz_co {co a : Int} (hco : 0 ≤ co ∧ co < 1344) (ha : 0 ≤ a ∧ a ≤ 3) :
    (cval c co → p + (csz (4 + co / 6 / 32) (co % 6) + asz a) ≤ N → (∀ i, 0 ≤ i → i < csz (4 + co / 6 / 32) (co % 6) + asz a → chb g (4 + co / 6 / 32) (co / 6 % 32) (6 * a + co % 6) i = T (p + i)) → (4 ≤ csz (4 + co / 6 / 32) (co % 6) + asz a → wz T N g c p (co / 6 * 24 + 6 * a + co % 6) = csz (4 + co / 6 / 32) (co % 6) + asz a) ∧ (csz (4 + co / 6 / 32) (co % 6) + asz a < 4 → wz T N g c p (co / 6 * 24 + 6 * a + co % 6) = 0)) ∧
    (¬ (cval c co ∧ p + (csz (4 + co / 6 / 32) (co % 6) + asz a) ≤ N ∧ ∀ i, 0 ≤ i → i < csz (4 + co / 6 / 32) (co % 6) + asz a → chb g (4 + co / 6 / 32) (co / 6 % 32) (6 * a + co % 6) i = T (p + i)) → wz T N g c p (co / 6 * 24 + 6 * a + co % 6) = 0) := by
  obtain ⟨r1, r2, r3⟩ := co_rg hco
  have hc1 := csz_rg (how := co % 6) r1
  have ha1 := asz_rg (a := a) ha
  have e1 : (co / 6 * 24 + 6 * a + co % 6) / 24 = co / 6 := by omega
  have e2 : (co / 6 * 24 + 6 * a + co % 6) % 24 = 6 * a + co % 6 := by omega
  have e3 := chs_a (n := 4 + co / 6 / 32) (how := co % 6) (a := a) r3 ha.1
  unfold wz
  rw [e1, e2, e3]
  refine ⟨fun q1 q2 q3 => ⟨fun q4 => if_pos ⟨q1, q4, q2, (alleq_int (by omega)).mpr q3⟩, fun q4 => if_neg (fun z => by omega)⟩, fun q => if_neg (fun z => q ⟨z.1, z.2.2.1, (alleq_int (by omega)).mp z.2.2.2⟩)⟩
theorem wz_nomatch {co a : Int} (hco : 0 ≤ co ∧ co < 1344) (ha : a = 0 ∨ a = 1 ∨ a = 3) (h : ¬ (cval c co ∧ p + csz (4 + co / 6 / 32) (co % 6) ≤ N ∧ cmt T g co p)) : wz T N g c p (co / 6 * 24 + 6 * a + co % 6) = 0 := by
  obtain ⟨r1, r2, r3⟩ := co_rg hco
  have hc1 := csz_rg (how := co % 6) r1
  have ha1 := asz_rg (a := a) (by omega)
  refine (wz_co hco (by omega)).2 (fun q => h ⟨q.1, by omega, fun i i0 i1 => ?_⟩)
  have := q.2.2 i i0 (by omega)
  rw [chb_n r3 (by omega) (by omega), if_pos ⟨i0, i1⟩] at this
  exact this
theorem wz_nomatch2 {co : Int} (hco : 0 ≤ co ∧ co < 1344) (h : ¬ (cval c co ∧ T p = 32 ∧ p + 1 + csz (4 + co / 6 / 32) (co % 6) ≤ N ∧ cmt T g co (p + 1))) : wz T N g c p (co / 6 * 24 + 6 * 2 + co % 6) = 0 := by
  obtain ⟨r1, r2, r3⟩ := co_rg hco
  have hc1 := csz_rg (how := co % 6) r1
  have ea : asz 2 = 1 := rfl
  refine (wz_co hco (by omega)).2 (fun q => h ⟨q.1, ?_, by omega, fun i i0 i1 => ?_⟩)
  · have := q.2.2 0 (by omega) (by omega)
    rw [chb_2 r3, if_neg (by omega), show p + 0 = p by omega] at this
    exact this.symm
  · have := q.2.2 (i + 1) (by omega) (by omega)
    rw [chb_2 r3, if_pos (by omega), show i + 1 - 1 = i by omega, show p + (i + 1) = p + 1 + i by omega] at this
    exact this
theorem wz_0 {co : Int} (hco : 0 ≤ co ∧ co < 1344) (hv : cval c co) (hl : p + csz (4 + co / 6 / 32) (co % 6) ≤ N) (hm : cmt T g co p) : (4 ≤ p + csz (4 + co / 6 / 32) (co % 6) - p → wz T N g c p (co / 6 * 24 + 6 * 0 + co % 6) = p + csz (4 + co / 6 / 32) (co % 6) - p) ∧ (p + csz (4 + co / 6 / 32) (co % 6) - p < 4 → wz T N g c p (co / 6 * 24 + 6 * 0 + co % 6) = 0) := by
  obtain ⟨r1, r2, r3⟩ := co_rg hco
  have ea : asz 0 = 0 := rfl
  have q := (wz_co (T := T) (N := N) (g := g) (c := c) (p := p) (a := 0) hco (by omega)).1 hv (by omega) (fun i i0 i1 => by
    rw [chb_n r3 (by omega) (by omega), if_pos (by omega)]; exact hm i i0 (by omega))
  rw [ea] at q
  exact ⟨fun z => by rw [q.1 (by omega)]; omega, fun z => q.2 (by omega)⟩
theorem wz_1 {co : Int} (hco : 0 ≤ co ∧ co < 1344) (hv : cval c co) (hl : p + csz (4 + co / 6 / 32) (co % 6) < N) (hm : cmt T g co p) (h32 : T (p + csz (4 + co / 6 / 32) (co % 6)) = 32) : (4 ≤ p + csz (4 + co / 6 / 32) (co % 6) + 1 - p → wz T N g c p (co / 6 * 24 + 6 * 1 + co % 6) = p + csz (4 + co / 6 / 32) (co % 6) + 1 - p) ∧ (p + csz (4 + co / 6 / 32) (co % 6) + 1 - p < 4 → wz T N g c p (co / 6 * 24 + 6 * 1 + co % 6) = 0) := by
  obtain ⟨r1, r2, r3⟩ := co_rg hco
  have ea : asz 1 = 1 := rfl
  have q := (wz_co (T := T) (N := N) (g := g) (c := c) (p := p) (a := 1) hco (by omega)).1 hv (by omega) (fun i i0 i1 => by
    rw [chb_n r3 (by omega) (by omega)]
    by_cases z : i < csz (4 + co / 6 / 32) (co % 6)
    · rw [if_pos (by omega)]; exact hm i i0 z
    · rw [if_neg (by omega), if_neg (by omega), show i = csz (4 + co / 6 / 32) (co % 6) by omega]; exact h32.symm)
  rw [ea] at q
  exact ⟨fun z => by rw [q.1 (by omega)]; omega, fun z => q.2 (by omega)⟩
theorem wz_1n {co : Int} (hco : 0 ≤ co ∧ co < 1344) (h : ¬ (p + csz (4 + co / 6 / 32) (co % 6) < N ∧ T (p + csz (4 + co / 6 / 32) (co % 6)) = 32)) : wz T N g c p (co / 6 * 24 + 6 * 1 + co % 6) = 0 := by
  obtain ⟨r1, r2, r3⟩ := co_rg hco
  have hc1 := csz_rg (how := co % 6) r1
  have ea : asz 1 = 1 := rfl
  refine (wz_co hco (by omega)).2 (fun q => h ⟨by omega, ?_⟩)
  have := q.2.2 (csz (4 + co / 6 / 32) (co % 6)) (by omega) (by omega)
  rw [chb_n r3 (by omega) (by omega), if_neg (by omega), if_neg (by omega)] at this
  exact this.symm
theorem wz_3 {co : Int} (hco : 0 ≤ co ∧ co < 1344) (hv : cval c co) (hl : p + csz (4 + co / 6 / 32) (co % 6) + 1 < N) (hm : cmt T g co p) (h44 : T (p + csz (4 + co / 6 / 32) (co % 6)) = 44) (h32 : T (p + csz (4 + co / 6 / 32) (co % 6) + 1) = 32) : (4 ≤ p + csz (4 + co / 6 / 32) (co % 6) + 2 - p → wz T N g c p (co / 6 * 24 + 6 * 3 + co % 6) = p + csz (4 + co / 6 / 32) (co % 6) + 2 - p) ∧ (p + csz (4 + co / 6 / 32) (co % 6) + 2 - p < 4 → wz T N g c p (co / 6 * 24 + 6 * 3 + co % 6) = 0) := by
  obtain ⟨r1, r2, r3⟩ := co_rg hco
  have ea : asz 3 = 2 := rfl
  have q := (wz_co (T := T) (N := N) (g := g) (c := c) (p := p) (a := 3) hco (by omega)).1 hv (by omega) (fun i i0 i1 => by
    rw [chb_n r3 (by omega) (by omega)]
    by_cases z : i < csz (4 + co / 6 / 32) (co % 6)
    · rw [if_pos (by omega)]; exact hm i i0 z
    · rw [if_neg (by omega)]
      by_cases z2 : i = csz (4 + co / 6 / 32) (co % 6)
      · rw [if_pos (by omega), z2]; exact h44.symm
      · rw [if_neg (by omega), show p + i = p + csz (4 + co / 6 / 32) (co % 6) + 1 by omega]; exact h32.symm)
  rw [ea] at q
  exact ⟨fun z => by rw [q.1 (by omega)]; omega, fun z => q.2 (by omega)⟩
theorem wz_3n {co : Int} (hco : 0 ≤ co ∧ co < 1344) (h : ¬ (p + csz (4 + co / 6 / 32) (co % 6) + 1 < N ∧ T (p + csz (4 + co / 6 / 32) (co % 6)) = 44 ∧ T (p + csz (4 + co / 6 / 32) (co % 6) + 1) = 32)) : wz T N g c p (co / 6 * 24 + 6 * 3 + co % 6) = 0 := by
  obtain ⟨r1, r2, r3⟩ := co_rg hco
  have hc1 := csz_rg (how := co % 6) r1
  have ea : asz 3 = 2 := rfl
  refine (wz_co hco (by omega)).2 (fun q => h ⟨by omega, ?_, ?_⟩)
  · have := q.2.2 (csz (4 + co / 6 / 32) (co % 6)) (by omega) (by omega)
    rw [chb_n r3 (by omega) (by omega), if_neg (by omega), if_pos (by omega)] at this
    exact this.symm
  · have := q.2.2 (csz (4 + co / 6 / 32) (co % 6) + 1) (by omega) (by omega)
    rw [chb_n r3 (by omega) (by omega), if_neg (by omega), if_neg (by omega), show p + (csz (4 + co / 6 / 32) (co % 6) + 1) = p + csz (4 + co / 6 / 32) (co % 6) + 1 by omega] at this
    exact this.symm
theorem wz_2 {co : Int} (hco : 0 ≤ co ∧ co < 1344) (hv : cval c co) (hl : p + 1 + csz (4 + co / 6 / 32) (co % 6) ≤ N) (hm : cmt T g co (p + 1)) (h32 : T p = 32) : (4 ≤ p + 1 + csz (4 + co / 6 / 32) (co % 6) - p → wz T N g c p (co / 6 * 24 + 6 * 2 + co % 6) = p + 1 + csz (4 + co / 6 / 32) (co % 6) - p) ∧ (p + 1 + csz (4 + co / 6 / 32) (co % 6) - p < 4 → wz T N g c p (co / 6 * 24 + 6 * 2 + co % 6) = 0) := by
  obtain ⟨r1, r2, r3⟩ := co_rg hco
  have ea : asz 2 = 1 := rfl
  have q := (wz_co (T := T) (N := N) (g := g) (c := c) (p := p) (a := 2) hco (by omega)).1 hv (by omega) (fun i i0 i1 => by
    rw [chb_2 r3]
    by_cases z : i = 0
    · rw [if_neg (by omega), z, show p + 0 = p by omega]; exact h32.symm
    · rw [if_pos (by omega)]
      have := hm (i - 1) (by omega) (by omega)
      rw [this, show p + 1 + (i - 1) = p + i by omega])
  rw [ea] at q
  exact ⟨fun z => by rw [q.1 (by omega)]; omega, fun z => q.2 (by omega)⟩
end FindWord2
