/-! pack: signs written, lengths of marks told -/
section PSign
variable {sc : bm_Sc} {H : Nat × Int → bm_S → Prop} {K : bm_S → Prop} {ι : bm_S} {l : List Int} {L : Int → Int} {a n0 st : Int}
def sgb (L : Int → Int) (a s : Int) : List Int := hbt (cd L a s) (L s).toNat
theorem hbt_len (c : Int) : ∀ k : Nat, (hbt c k).length = k
  | 0 => rfl
  | k + 1 => by show (hbt c k).length + 1 = k + 1; rw [hbt_len c k]
theorem sgb_len {s : Int} (h : 0 ≤ L s) : ((sgb L a s).length : Int) = L s := by unfold sgb; rw [hbt_len]; omega
def CS (ι : bm_S) (n0 a : Int) (L : Int → Int) : Prop := (∀ s, 0 ≤ s → s < a → ι 27 n0 s = L s) ∧ ∀ s, 0 ≤ s → s < a → 1 ≤ L s → ι 28 n0 s = trn (cd L a s) (L s).toNat
theorem CS.fr {ι' : bm_S} {P : Nat → Int → Int → Prop} (h : CS ι n0 a L) (hF : Fr P ι ι') (hP : ∀ j, ¬ P 27 n0 j ∧ ¬ P 28 n0 j) : CS ι' n0 a L := ⟨fun s x y => by rw [hF 27 n0 s (hP s).1]; exact h.1 s x y, fun s x y z => by rw [hF 28 n0 s (hP s).2]; exact h.2 s x y z⟩
theorem s_sign {s : Int} (hL : CWL n0 a) (hs : 0 ≤ s ∧ s < a) (hS : CS ι n0 a L) (hLs : 0 ≤ L s ∧ L s ≤ 15) (hC : CB ι l) (hr : (l.length : Int) + L s ≤ 32768) (h : ∀ ι' : bm_S, CB ι' (l ++ sgb L a s) → Fr fW ι ι' → K ι') : bC sc 38 [br 5 n0, br 2 1, bi s] ι (bk0 K H) := by
  refine e_CW_write_0 (bif_f (by omega) (bif_f (by rw [hL.2.2.1]; omega) ⟨by rw [hL.2.2.1]; omega, by rw [hL.2.1]; omega, ?_⟩))
  rw [hS.1 s hs.1 hs.2]
  by_cases z : L s = 0
  · rw [z]
    refine s_pu0 (by omega) hC (fun ι' b F => h ι' ?_ F)
    have e : sgb L a s = [] := by unfold sgb; rw [z]; rfl
    rw [e, List.append_nil]; exact b
  · rw [hS.2 s hs.1 hs.2 (by omega)]
    have r := trn_rg (cd L a s) (L s).toNat (by omega)
    have r2 := (p16 (n := (L s).toNat) (by omega)).1
    refine s_pu (by omega) (by omega) (by omega) hC (fun ι' b F => h ι' ?_ F)
    rw [bts_trn] at b; exact b
theorem bts_1 {b : Int} (h : b = 0 ∨ b = 1) : bts b 1 0 = [b] := by
  show [b / bm_p2 0 % 2] = [b]
  rw [show bm_p2 0 = 1 from rfl, Int.ediv_one]
  rcases h with rfl | rfl <;> rfl
theorem m_sign27 {s c : Int} {v3 : bm_V} (hst : 0 ≤ st ∧ 0 ≤ s ∧ st + s < 18000) : ∀ (k : Nat) (l : List Int) (ι : bm_S), k ≤ 15 → (1 ≤ k → ι 72 0 (st + s) = c) → MB ι l → (l.length : Int) + k ≤ 32768 → (∀ ι' : bm_S, MB ι' (l ++ hbt c k) → Fr gW ι ι' → K ι') → bW sc 236 27 [br 13 0, bi st, bi s, v3, bi ((k : Int) - 1)] [] ι (bk0 K H) := by
  intro k
  induction k with
  | zero =>
    intro l ι hk hc hM hr h
    exact e_M_writeSign_27 (bif_t (by omega) (h ι (by show MB ι (l ++ []); rw [List.append_nil]; exact hM) (Fr.refl _ _)))
  | succ k ih =>
    intro l ι hk hc hM hr h
    have hb : c / bm_p2 (k : Int) % 2 = 0 ∨ c / bm_p2 (k : Int) % 2 = 1 := by omega
    rw [show ((k + 1 : Nat) : Int) - 1 = (k : Int) by omega]
    refine e_M_writeSign_27 (bif_f (by omega) ⟨by omega, by omega, by omega, ?_⟩)
    rw [hc (by omega)]
    refine m_pu (by omega) (by omega) hM (fun ι1 b F1 => ⟨by omega, ?_⟩)
    have b' : MB ι1 (l ++ [c / bm_p2 (k : Int) % 2]) := by
      have e := bts_1 hb
      have b2 : MB ι1 (l ++ bts (c / bm_p2 (k : Int) % 2) 1 0) := b
      rw [e] at b2; exact b2
    rw [show (k : Int) + (-1) = (k : Int) - 1 by omega]
    refine ih _ ι1 (by omega) (fun _ => by rw [F1 72 0 _ (by omega)]; exact hc (by omega)) b' (by rw [app_len]; show (l.length : Int) + ((1 : Nat) : Int) + k ≤ 32768; omega) (fun ι' b F2 => h ι' ?_ (F1.trans F2))
    rw [List.append_assoc] at b; exact b
def MS (ι : bm_S) (st a : Int) (L : Int → Int) : Prop := (ι 73 0 st < 0 ∧ ∀ s, 0 ≤ s → s < a → ι 71 0 (st + s) = L s ∧ (1 ≤ L s → ι 72 0 (st + s) = cd L a s)) ∨ (0 ≤ ι 73 0 st ∧ ∀ s, 0 ≤ s → s < a → L s = 0)
theorem MS.fr {ι' : bm_S} {P : Nat → Int → Int → Prop} (h : MS ι st a L) (hF : Fr P ι ι') (hP : ¬ P 73 0 st ∧ ∀ j, st ≤ j → j < st + a → ¬ P 71 0 j ∧ ¬ P 72 0 j) : MS ι' st a L := by
  unfold MS
  rw [hF 73 0 st hP.1]
  rcases h with h | h
  · exact Or.inl ⟨h.1, fun s x y => by rw [hF 71 0 _ (hP.2 _ (by omega) (by omega)).1, hF 72 0 _ (hP.2 _ (by omega) (by omega)).2]; exact h.2 s x y⟩
  · exact Or.inr h
theorem m_sign {s : Int} (hst : 0 ≤ st ∧ st + a ≤ 18000) (hs : 0 ≤ s ∧ s < a) (hS : MS ι st a L) (hLs : 0 ≤ L s ∧ L s ≤ 15) (hM : MB ι l) (hr : (l.length : Int) + L s ≤ 32768) (h : ∀ ι' : bm_S, MB ι' (l ++ sgb L a s) → Fr gW ι ι' → K ι') : bC sc 236 [br 13 0, bi st, bi s] ι (bk0 K H) := by
  refine e_M_writeSign_0 ⟨by omega, ?_⟩
  rcases hS with ⟨h1, h2⟩ | ⟨h1, h2⟩
  · have q := h2 s hs.1 hs.2
    rw [q.1]
    refine bif_t h1 ⟨by omega, by omega, by omega, ?_⟩
    have := m_sign27 (sc := sc) (H := H) (K := K) (c := cd L a s) (v3 := bi (L s)) (s := s) ⟨hst.1, hs.1, by omega⟩ (L s).toNat l ι (by omega) (fun y => q.2 (by omega)) hM (by omega) h
    rw [show (((L s).toNat : Nat) : Int) = L s by omega] at this
    exact this
  · refine bif_f (by omega) ⟨by omega, ?_⟩
    have z := h2 s hs.1 hs.2
    have e : sgb L a s = [] := by unfold sgb; rw [z]; rfl
    rw [e] at h
    exact m_sign27 (c := 0) ⟨hst.1, hs.1, by omega⟩ 0 l ι (by omega) (fun y => by omega) hM (by omega) h
/-! lengths of marks -/
def mtv (k : Int) : Int := bt_205.getD k.toNat 0
def mtn (k : Int) : Int := bt_206.getD k.toNat 0
theorem X205 {k : Int} : bm_X sc 205 k = mtv k := rfl
theorem X206 {k : Int} : bm_X sc 206 k = mtn k := rfl
theorem six {x : Int} (h : 0 ≤ x ∧ x ≤ 5) : x = 0 ∨ x = 1 ∨ x = 2 ∨ x = 3 ∨ x = 4 ∨ x = 5 := by omega
theorem mt_rg {x : Int} (h : 0 ≤ x ∧ x ≤ 5) : (0 ≤ mtv x ∧ mtv x ≤ 15) ∧ (2 ≤ mtn x ∧ mtn x ≤ 4) := by
  rcases six h with rfl | rfl | rfl | rfl | rfl | rfl <;> decide
theorem m_markLen {x : Int} (hx : 0 ≤ x ∧ x ≤ 5) (hM : MB ι l) (hr : (l.length : Int) + 4 ≤ 32768) (h : ∀ ι' : bm_S, MB ι' (l ++ bts (mtv x) (mtn x).toNat 0) → Fr gW ι ι' → K ι') : bC sc 243 [br 13 0, bi x] ι (bk0 K H) := by
  refine e_M_writeMarkLength_0 ?_
  rcases six hx with rfl | rfl | rfl | rfl | rfl | rfl
  · exact bif_t (by omega) (m_pu (by omega) (by omega) hM h)
  · exact bif_f (by omega) (bif_t (by omega) (m_pu (by omega) (by omega) hM h))
  · exact bif_f (by omega) (bif_f (by omega) (bif_t (by omega) (m_pu (by omega) (by omega) hM h)))
  · exact bif_f (by omega) (bif_f (by omega) (bif_f (by omega) (bif_t (by omega) (m_pu (by omega) (by omega) hM h))))
  · exact bif_f (by omega) (bif_f (by omega) (bif_f (by omega) (bif_f (by omega) (bif_t (by omega) (m_pu (by omega) (by omega) hM h)))))
  · exact bif_f (by omega) (bif_f (by omega) (bif_f (by omega) (bif_f (by omega) (bif_f (by omega) (m_pu (by omega) (by omega) hM h)))))
def tmb (M : Int → Int) : Nat → Int → Int → List Int
  | 0, _, _ => []
  | m + 1, k, S => if 32 ≤ S then [] else bts (mtv (M (mo k))) (mtn (M (mo k))).toNat 0 ++ tmb M m (k + 1) (if M (mo k) ≤ 0 then S + 0 else S + 32 / bm_p2 (M (mo k)))
variable {M : Int → Int}
theorem tmb_len (hM : ∀ s, 0 ≤ s → s < 18 → 0 ≤ M s ∧ M s ≤ 5) : ∀ (m : Nat) (k S : Int), 0 ≤ k → k + m ≤ 18 → ((tmb M m k S).length : Int) ≤ 4 * m
  | 0, k, S, h0, h1 => by show ((0 : Nat) : Int) ≤ 4 * ((0 : Nat) : Int); omega
  | m + 1, k, S, h0, h1 => by
    have e : tmb M (m + 1) k S = if 32 ≤ S then [] else bts (mtv (M (mo k))) (mtn (M (mo k))).toNat 0 ++ tmb M m (k + 1) (if M (mo k) ≤ 0 then S + 0 else S + 32 / bm_p2 (M (mo k))) := rfl
    have r := mo_rg (k := k) (by omega)
    have t := mt_rg (hM (mo k) r.1 r.2)
    have ih := tmb_len hM m (k + 1) (if M (mo k) ≤ 0 then S + 0 else S + 32 / bm_p2 (M (mo k))) (by omega) (by omega)
    rw [e]
    by_cases z : 32 ≤ S
    · rw [if_pos z]; show ((0 : Nat) : Int) ≤ _; omega
    · rw [if_neg z, app_len, bts_len]; omega
theorem s_tm4 (hM : ∀ s, 0 ≤ s → s < 18 → 0 ≤ M s ∧ M s ≤ 5) {n lone : Int} (hMv : ∀ s, 0 ≤ s → s < 18 → M s = if n < 2 ∧ s = lone then 1 else L s) : ∀ (m : Nat) (k S : Int) (l : List Int) (ι : bm_S) (v4 v5 : bm_V), k + m = 18 → 0 ≤ k → 0 ≤ S → S ≤ 64 → CB ι l → (l.length : Int) + 4 * m ≤ 32768 → ι 5 3 9 = max n 1 → (n < 2 → ι 29 3 0 = lone) → (∀ s, 0 ≤ s → s < 18 → ι 27 3 s = L s) → (∀ ι' : bm_S, CB ι' (l ++ tmb M m k S) → Fr fW ι ι' → K ι') → bW sc 50 4 [br 5 3, br 2 1, bi S, bi k, v4, v5] [] ι (bk0 K H) := by
  intro m
  induction m with
  | zero =>
    intro k S l ι v4 v5 hk k0 S0 S1 hC hr h9 h29 h27 h
    exact e_CW_tellAsMarks_4 (bif_t (by omega) (h ι (by show CB ι (l ++ []); rw [List.append_nil]; exact hC) (Fr.refl _ _)))
  | succ m ih =>
    intro k S l ι v4 v5 hk k0 S0 S1 hC hr h9 h29 h27 h
    have e : tmb M (m + 1) k S = if 32 ≤ S then [] else bts (mtv (M (mo k))) (mtn (M (mo k))).toNat 0 ++ tmb M m (k + 1) (if M (mo k) ≤ 0 then S + 0 else S + 32 / bm_p2 (M (mo k))) := rfl
    have r := mo_rg (k := k) (by omega)
    have mr := hM (mo k) r.1 r.2
    have mv := hMv (mo k) r.1 r.2
    have t := mt_rg mr
    rw [e] at h
    refine e_CW_tellAsMarks_4 (bif_f (by omega) (bif_i (fun z => ?_) (fun z => ⟨by omega, ?_⟩)))
    · rw [if_pos z, List.append_nil] at h; exact h ι hC (Fr.refl _ _)
    · rw [if_neg z] at h
      -- the sum grows
      have next : ∀ (x : Int), x = M (mo k) → ∀ (ι1 : bm_S) (v4 v5 : bm_V), CB ι1 (l ++ bts (mtv x) (mtn x).toNat 0) → Fr fW ι ι1 → bW sc 50 4 [br 5 3, br 2 1, bi (if x ≤ 0 then S + 0 else S + 32 / bm_p2 x), bi (k + 1), v4, v5] [] ι1 (bk0 K H) := fun x hx ι1 v4 v5 C1 F1 => by
        have sr : 0 ≤ (if x ≤ 0 then S + 0 else S + 32 / bm_p2 x) ∧ (if x ≤ 0 then S + 0 else S + 32 / bm_p2 x) ≤ 64 := by
          by_cases y : x ≤ 0
          · rw [if_pos y]; omega
          · rw [if_neg y]; have := p32 (n := x) (by omega); omega
        refine ih (k + 1) _ _ ι1 v4 v5 (by omega) (by omega) sr.1 sr.2 C1 (by rw [app_len, bts_len, hx]; omega) (by rw [F1 5 3 9 (by omega)]; exact h9) (fun y => by rw [F1 29 3 0 (by omega)]; exact h29 y) (fun s x y => by rw [F1 27 3 s (by omega)]; exact h27 s x y) (fun ι' C2 F2 => h ι' ?_ (F1.trans F2))
        rw [hx, List.append_assoc] at C2; exact C2
      rw [X204, CWL3.2.1, CWL3.2.2.2.1, h27 (mo k) r.1 r.2, X205, X206, X205, X206]
      refine ⟨by omega, bif_i (fun y => ⟨by omega, bif_i (fun x => ⟨by omega, by omega, ?_⟩) (fun x => ⟨?_, ?_, ?_⟩)⟩) (fun y => ⟨?_, ?_, ?_⟩)⟩
      · rw [h9] at y
        have e1 : (1 : Int) = M (mo k) := by rw [mv, if_pos ⟨by omega, by rw [x]; exact h29 (by omega)⟩]
        have t1 := mt_rg (x := 1) (by omega)
        refine s_pu (by omega) (by omega) (by omega) hC (fun ι1 C1 F1 => ⟨by omega, by omega, by omega, ?_⟩)
        have := next 1 e1 ι1 (bi (mo k)) (bi 1) C1 F1
        rw [if_neg (by omega)] at this
        exact this
      · rw [h9] at y
        have e1 : L (mo k) = M (mo k) := by rw [mv, if_neg (fun q => x (by rw [h29 (by omega)]; exact q.2))]
        omega
      · rw [h9] at y
        have e1 : L (mo k) = M (mo k) := by rw [mv, if_neg (fun q => x (by rw [h29 (by omega)]; exact q.2))]
        omega
      · rw [h9] at y
        have e1 : L (mo k) = M (mo k) := by rw [mv, if_neg (fun q => x (by rw [h29 (by omega)]; exact q.2))]
        have t1 := mt_rg (x := L (mo k)) (by omega)
        have e2 : min (L (mo k)) 5 = L (mo k) := by omega
        rw [e2]
        refine s_pu (by omega) (by omega) (by omega) hC (fun ι1 C1 F1 => bif_i (fun w => ⟨by omega, by omega, ?_⟩) (fun w => ⟨by omega, ?_, by omega, ?_⟩))
        · have := next (L (mo k)) e1 ι1 (bi (mo k)) (bi (L (mo k))) C1 F1
          rw [if_pos w] at this
          exact this
        · have := p32 (n := L (mo k)) (by omega); omega
        · have := next (L (mo k)) e1 ι1 (bi (mo k)) (bi (L (mo k))) C1 F1
          rw [if_neg w] at this
          exact this
      · rw [h9] at y
        have e1 : L (mo k) = M (mo k) := by rw [mv, if_neg (fun q => by omega)]
        omega
      · rw [h9] at y
        have e1 : L (mo k) = M (mo k) := by rw [mv, if_neg (fun q => by omega)]
        omega
      · rw [h9] at y
        have e1 : L (mo k) = M (mo k) := by rw [mv, if_neg (fun q => by omega)]
        have t1 := mt_rg (x := L (mo k)) (by omega)
        have e2 : min (L (mo k)) 5 = L (mo k) := by omega
        rw [e2]
        refine s_pu (by omega) (by omega) (by omega) hC (fun ι1 C1 F1 => bif_i (fun w => ⟨by omega, by omega, ?_⟩) (fun w => ⟨by omega, ?_, by omega, ?_⟩))
        · have := next (L (mo k)) e1 ι1 (bi (mo k)) (bi (L (mo k))) C1 F1
          rw [if_pos w] at this
          exact this
        · have := p32 (n := L (mo k)) (by omega); omega
        · have := next (L (mo k)) e1 ι1 (bi (mo k)) (bi (L (mo k))) C1 F1
          rw [if_neg w] at this
          exact this
theorem m_tm149 {Q : bm_O → bm_S → Prop} {v1 v2 v3 v4 : bm_V} (hM : ∀ s, 0 ≤ s → s < 18 → 0 ≤ M s ∧ M s ≤ 5) : ∀ (m : Nat) (k S : Int) (l : List Int) (ι : bm_S) (v7 : bm_V), k + m = 18 → 0 ≤ k → 0 ≤ S → S ≤ 64 → MB ι l → (l.length : Int) + 4 * m ≤ 32768 → (∀ s, 0 ≤ s → s < 18 → ι 71 0 (17910 + s) = M s) → (∀ (ι' : bm_S) (v5 v7 : bm_V), MB ι' (l ++ tmb M m k S) → Fr gW ι ι' → bW sc 244 213 [br 13 0, v1, v2, v3, v4, v5, bi 0, v7] [] ι' Q) → bW sc 244 149 [br 13 0, v1, v2, v3, v4, bi S, bi k, v7] [] ι Q := by
  intro m
  induction m with
  | zero =>
    intro k S l ι v7 hk k0 S0 S1 hC hr h71 h
    exact e_M_writeCode_149 (bif_t (by omega) (h ι _ _ (by show MB ι (l ++ []); rw [List.append_nil]; exact hC) (Fr.refl _ _)))
  | succ m ih =>
    intro k S l ι v7 hk k0 S0 S1 hC hr h71 h
    have e : tmb M (m + 1) k S = if 32 ≤ S then [] else bts (mtv (M (mo k))) (mtn (M (mo k))).toNat 0 ++ tmb M m (k + 1) (if M (mo k) ≤ 0 then S + 0 else S + 32 / bm_p2 (M (mo k))) := rfl
    have r := mo_rg (k := k) (by omega)
    have mr := hM (mo k) r.1 r.2
    have t := mt_rg mr
    rw [e] at h
    refine e_M_writeCode_149 (bif_f (by omega) (bif_i (fun z => ?_) (fun z => m_markAt ⟨k0, by omega⟩ ⟨by omega, by omega, ?_⟩)))
    · rw [if_pos z, List.append_nil] at h; exact h ι _ _ hC (Fr.refl _ _)
    · rw [if_neg z] at h
      rw [h71 (mo k) r.1 r.2]
      refine m_markLen mr hC (by omega) (fun ι1 C1 F1 => ?_)
      have sr : 0 < M (mo k) → 1 ≤ 32 / bm_p2 (M (mo k)) ∧ 32 / bm_p2 (M (mo k)) ≤ 16 := fun y => by have := p32 (n := M (mo k)) (by omega); omega
      have go : ∀ (S' : Int) (v7 : bm_V), 0 ≤ S' → S' ≤ 64 → S' = (if M (mo k) ≤ 0 then S + 0 else S + 32 / bm_p2 (M (mo k))) → bW sc 244 149 [br 13 0, v1, v2, v3, v4, bi S', bi (k + 1), v7] [] ι1 Q := fun S' v7 a0 a1 a2 => by
        refine ih (k + 1) S' _ ι1 v7 (by omega) (by omega) a0 a1 C1 (by rw [app_len, bts_len]; omega) (fun s x y => by rw [F1 71 0 _ (by omega)]; exact h71 s x y) (fun ι' v5 v7 C2 F2 => h ι' v5 v7 ?_ (F1.trans F2))
        rw [a2, List.append_assoc] at C2; exact C2
      refine bif_i (fun w => ⟨by omega, by omega, go _ _ (by omega) (by omega) (by rw [if_pos w])⟩) (fun w => ⟨by omega, by have := sr (by omega); omega, by omega, go _ _ (by have := sr (by omega); omega) (by have := sr (by omega); omega) (by rw [if_neg w])⟩)
end PSign
