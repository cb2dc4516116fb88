/-! pack: a code told, both -/
section PTell
variable {sc : bm_Sc} {H : Nat × Int → bm_S → Prop} {K : bm_S → Prop} {ι : bm_S} {l : List Int} {L w LM : Int → Int} {a n0 st Wd e : Int}
def mkb (L : Int → Int) (e : Int) (LM : Int → Int) : Nat → Nat → List Int
  | 0, _ => []
  | m + 1, k => sgb LM 18 (mkk L e k) ++ ((if mkk L e k = 17 then bts (rnn L e k - 3) 3 0 else []) ++ mkb L e LM m (k + 1))
theorem mkb_s (m k : Nat) : mkb L e LM (m + 1) k = sgb LM 18 (mkk L e k) ++ ((if mkk L e k = 17 then bts (rnn L e k - 3) 3 0 else []) ++ mkb L e LM m (k + 1)) := rfl
theorem mkb_len (hM : ∀ s, 0 ≤ s → s < 18 → 0 ≤ LM s ∧ LM s ≤ 5) {mm : Nat} (hk : ∀ k : Nat, k < mm → 0 ≤ mkk L e k ∧ mkk L e k < 18) : ∀ (m k : Nat), k + m ≤ mm → ((mkb L e LM m k).length : Int) ≤ 8 * m := by
  intro m
  induction m with
  | zero => intro k _; show ((0 : Nat) : Int) ≤ 8 * ((0 : Nat) : Int); omega
  | succ m ih =>
    intro k h
    have q := hk k (by omega)
    have r := hM _ q.1 q.2
    have i := ih (k + 1) (by omega)
    rw [mkb_s, app_len, app_len, sgb_len r.1]
    by_cases z : mkk L e k = 17
    · rw [if_pos z, bts_len]; omega
    · rw [if_neg z]; show LM (mkk L e k) + (((0 : Nat) : Int) + _) ≤ _; omega
def lngB (L LM M : Int → Int) (e : Int) : List Int := bts 0 2 0 ++ (tmb M 18 0 0 ++ mkb L e LM (mM L e) 0)
def Tld (Wd a : Int) (w L : Int → Int) (B : List Int) : Prop := ∃ n lone, CL a 15 w n lone L ∧ ((n ≤ 4 ∧ B = fewB L Wd a n lone) ∨ (4 < n ∧ ∃ nm lm LM, CL 18 5 (cw (mkk L (eb L a.toNat)) (mM L (eb L a.toNat))) nm lm LM ∧ B = lngB L LM (fun s => if nm < 2 ∧ s = lm then 1 else LM s) (eb L a.toNat)))
theorem fsl_len (hWd : 0 ≤ Wd) (hL : ∀ s : Int, 0 ≤ s → 1 ≤ L s → s < a → 0 < w s) : ∀ (m k : Nat), (k : Int) + m ≤ a → ((fsl L Wd 1 m k).length : Int) + (fsl L Wd 2 m k).length + (fsl L Wd 3 m k).length ≤ Wd * (cu w (k + m) - cu w k) := by
  intro m
  induction m with
  | zero => intro k _; show ((0 : Nat) : Int) + ((0 : Nat) : Int) + ((0 : Nat) : Int) ≤ Wd * (cu w k - cu w k); rw [Int.sub_self, Int.mul_zero]; omega
  | succ m ih =>
    intro k h
    have i := ih (k + 1) (by omega)
    rw [show ((k + 1 : Nat) : Int) = (k : Int) + 1 by omega, show k + 1 + m = k + (m + 1) by omega] at i
    have ec : cu w (k + 1) = cu w k + (if 0 < w k then 1 else 0) := rfl
    have ef : ∀ d : Int, ((fsl L Wd d (m + 1) k).length : Int) = (if L k = d then Wd else 0) + (fsl L Wd d m ((k : Int) + 1)).length := fun d => by
      show (((if L k = d then bts k Wd.toNat 0 else []) ++ fsl L Wd d m ((k : Int) + 1)).length : Int) = _
      rw [app_len]
      by_cases z : L k = d
      · rw [if_pos z, if_pos z, bts_len]; omega
      · rw [if_neg z, if_neg z]; show ((0 : Nat) : Int) + _ = _; omega
    rw [ef 1, ef 2, ef 3]
    have key : (if L k = 1 then Wd else 0) + (if L k = 2 then Wd else 0) + (if L k = 3 then Wd else 0) ≤ Wd * (if 0 < w k then 1 else 0) := by
      by_cases z : 1 ≤ L k
      · rw [if_pos (hL k (by omega) z (by omega)), Int.mul_one]
        by_cases z1 : L k = 1
        · rw [if_pos z1, if_neg (by omega), if_neg (by omega)]; omega
        · rw [if_neg z1]
          by_cases z2 : L k = 2
          · rw [if_pos z2, if_neg (by omega)]; omega
          · rw [if_neg z2]; split <;> omega
      · rw [if_neg (by omega), if_neg (by omega), if_neg (by omega)]
        split
        · omega
        · omega
    have e3 : Wd * (cu w (k + (m + 1)) - cu w k) = Wd * (cu w (k + (m + 1)) - cu w (k + 1)) + Wd * (if 0 < w k then 1 else 0) := by
      rw [← Int.mul_add, ec]; congr 1; omega
    rw [e3]; omega
theorem few_len {n lone : Int} (ha : 2 ≤ a ∧ a ≤ 704) (hWd : 1 ≤ Wd ∧ Wd ≤ 12) (hn : n ≤ 4) (hC : CL a 15 w n lone L) : ((fewB L Wd a n lone).length : Int) ≤ 74 + 8 * a := by
  unfold fewB
  rw [app_len, app_len, bts_len, bts_len]
  by_cases z : n < 2
  · rw [if_pos z, bts_len]; omega
  · rw [if_neg z, app_len]
    have q := fsl_len (L := L) (w := w) (a := a) (Wd := Wd) (by omega) (fun s x y z => ((CL_rg (by omega) hC) s x z).2.2 y) a.toNat 0 (by omega)
    have e1 : cu w (0 + a.toNat) = n := by rw [Nat.zero_add, hC.1]
    have e2 : cu w 0 = 0 := rfl
    rw [e1, e2] at q
    have q2 : Wd * (n - 0) ≤ 48 := by
      have : n = 2 ∨ n = 3 ∨ n = 4 := by omega
      rcases this with rfl | rfl | rfl <;> omega
    have e3 : ((f3l L Wd a).length : Int) = (fsl L Wd 1 a.toNat 0).length + ((fsl L Wd 2 a.toNat 0).length + (fsl L Wd 3 a.toNat 0).length) := by unfold f3l; rw [app_len, app_len]
    have q3 : ((fsl L Wd 1 a.toNat 0).length : Int) + (fsl L Wd 2 a.toNat 0).length + (fsl L Wd 3 a.toNat 0).length ≤ Wd * (n - 0) := q
    rw [e3]
    have : (((if n = 4 then bts (if lg3 L a = 3 then 1 else 0) 1 0 else []) : List Int).length : Int) ≤ 1 := by
      by_cases y : n = 4
      · rw [if_pos y, bts_len]; omega
      · rw [if_neg y]; show ((0 : Nat) : Int) ≤ 1; omega
    omega
theorem M_rg {nm lm : Int} (hM : ∀ s, 0 ≤ s → s < 18 → 0 ≤ LM s ∧ LM s ≤ 5) : ∀ s, 0 ≤ s → s < 18 → 0 ≤ (fun s => if nm < 2 ∧ s = lm then 1 else LM s) s ∧ (fun s => if nm < 2 ∧ s = lm then 1 else LM s) s ≤ 5 := fun s x y => by
  have := hM s x y
  show 0 ≤ (if nm < 2 ∧ s = lm then 1 else LM s) ∧ (if nm < 2 ∧ s = lm then 1 else LM s) ≤ 5
  split <;> omega
theorem CL5 {nm lm : Int} {W : Int → Int} (h : CL 18 5 W nm lm LM) : ∀ s, 0 ≤ s → s < 18 → 0 ≤ LM s ∧ LM s ≤ 5 := fun s x y => by have := CL_rg (by omega) h s x y; omega
theorem lng_len {nm lm : Int} (hL : ∀ s, 0 ≤ s → s < e → 0 ≤ L s ∧ L s ≤ 15) (he : 0 ≤ e ∧ e ≤ a) (hM : ∀ s, 0 ≤ s → s < 18 → 0 ≤ LM s ∧ LM s ≤ 5) : ((lngB L LM (fun s => if nm < 2 ∧ s = lm then 1 else LM s) e).length : Int) ≤ 74 + 8 * a := by
  unfold lngB
  rw [app_len, app_len, bts_len]
  have h1 := tmb_len (M_rg (nm := nm) (lm := lm) hM) 18 0 0 (by omega) (by omega)
  have h2 := mkb_len (L := L) (e := e) hM (fun k hk => by have := mkk_rg hL he.1 hk; omega) (mM L e) 0 (by omega)
  have h3 := mM_le (L := L) he.1
  omega
theorem Tld_len {B : List Int} (ha : 2 ≤ a ∧ a ≤ 704) (hWd : 1 ≤ Wd ∧ Wd ≤ 12) (h : Tld Wd a w L B) : (B.length : Int) ≤ 74 + 8 * a := by
  obtain ⟨n, lone, hC, h⟩ := h
  rcases h with ⟨h1, rfl⟩ | ⟨h1, nm, lm, LM, hM, rfl⟩
  · exact few_len ha hWd h1 hC
  · have er := eb_rg L a.toNat
    exact lng_len (fun s x y => by have := CL_rg (by omega) hC s x (by omega); omega) ⟨er.1, by omega⟩ (CL5 hM)
/-! comp -/
theorem s_noteW {x : Int} {W : Int → Int} (hL : CWL n0 a) (hx : x < a) (hw : WgC ι n0 a W) (hB : ∀ s, 0 ≤ s → s < a → 0 ≤ W s ∧ W s ≤ 100000) (h : ∀ ι' : bm_S, WgC ι' n0 a (fun s => W s + (if x = s then 1 else 0)) → Fr (fun t i _ => t = 26 ∧ i = n0) ι ι' → K ι') : bC sc 37 [br 5 n0, bi x] ι (bk0 K H) := by
  refine e_CW_note_0 (bif_i (fun z => h ι (fun s s0 s1 => ?_) (Fr.refl _ _)) (fun z => bif_f (by rw [hL.1]; omega) ⟨by rw [hL.1]; omega, ?_, by rw [hL.1]; omega, h _ (fun s s0 s1 => ?_) ((Fr.refl _ _).u ⟨rfl, rfl⟩)⟩))
  · show _ = W s + (if x = s then 1 else 0)
    rw [if_neg (by omega), hw s s0 s1]; omega
  · rw [hw x (by omega) hx]; have := hB x (by omega) hx; omega
  · show _ = W s + (if x = s then 1 else 0)
    rw [up_at]
    by_cases y : s = x
    · rw [if_pos y, if_pos y.symm, hw x (by omega) hx, y]
    · rw [if_neg y, if_neg (fun q => y q.symm), hw s s0 s1]; omega
theorem s_tell30 {Q : bm_O → bm_S → Prop} (hL : CWL n0 a) (ha : a ≤ 704) (hmm : (mM L e : Int) ≤ a) (hk : ∀ k : Nat, k < mM L e → 0 ≤ mkk L e k ∧ mkk L e k < 18) : ∀ (m k : Nat) (ι : bm_S), k + m = mM L e → MkC ι n0 L e (mM L e) → WgC ι 3 18 (cw (mkk L e) k) → (∀ ι' : bm_S, WgC ι' 3 18 (cw (mkk L e) (mM L e)) → Fr (fun t i _ => t = 26 ∧ i = 3) ι ι' → bW sc 39 30 [br 5 n0, br 2 1, br 5 3, bi (mM L e : Int)] [] ι' Q) → bW sc 39 30 [br 5 n0, br 2 1, br 5 3, bi (k : Int)] [] ι Q := by
  intro m
  induction m with
  | zero => intro k ι h1 h2 h3 h; rw [show k = mM L e by omega] at h3 ⊢; exact h ι h3 (Fr.refl _ _)
  | succ m ih =>
    intro k ι h1 h2 h3 h
    have q := hk k (by omega)
    refine e_CW_tell_30 (bif_f (by rw [h2.1]; omega) ⟨by rw [hL.2.2.2.2.1]; omega, ?_⟩)
    rw [(h2.2 k (by omega)).1]
    refine s_noteW CWL3 (by omega) h3 (fun s x y => by have := cw_rg (f := mkk L e) s k; omega) (fun ι1 b F1 => ⟨by omega, ?_⟩)
    rw [show (k : Int) + 1 = ((k + 1 : Nat) : Int) by omega]
    exact ih (k + 1) ι1 (by omega) ⟨by rw [F1 5 n0 10 (by omega)]; exact h2.1, fun i hi => by rw [F1 30 n0 i (by omega), F1 31 n0 i (by omega)]; exact h2.2 i hi⟩ b (fun ι' b' F2 => h ι' b' (F1.trans F2))
theorem s_tell72 (hL : CWL n0 a) (ha : a ≤ 704) (hmm : (mM L e : Int) ≤ a) (hk : ∀ k : Nat, k < mM L e → 0 ≤ mkk L e k ∧ mkk L e k < 18 ∧ (mkk L e k = 17 → 3 ≤ rnn L e k ∧ rnn L e k ≤ 10)) (hM : ∀ s, 0 ≤ s → s < 18 → 0 ≤ LM s ∧ LM s ≤ 5) : ∀ (m k : Nat) (l : List Int) (ι : bm_S), k + m = mM L e → MkC ι n0 L e (mM L e) → CS ι 3 18 LM → CB ι l → (l.length : Int) + 8 * m ≤ 32768 → (∀ ι' : bm_S, CB ι' (l ++ mkb L e LM m k) → Fr fW ι ι' → K ι') → bW sc 39 72 [br 5 n0, br 2 1, br 5 3, bi (k : Int)] [] ι (bk0 K H) := by
  intro m
  induction m with
  | zero =>
    intro k l ι h1 h2 h3 hC hr h
    exact e_CW_tell_72 (bif_t (by rw [h2.1]; omega) (h ι (by show CB ι (l ++ []); rw [List.append_nil]; exact hC) (Fr.refl _ _)))
  | succ m ih =>
    intro k l ι h1 h2 h3 hC hr h
    have q := hk k (by omega)
    have r := hM _ q.1 q.2.1
    rw [mkb_s] at h
    refine e_CW_tell_72 (bif_f (by rw [h2.1]; omega) ⟨by rw [hL.2.2.2.2.1]; omega, ?_⟩)
    rw [(h2.2 k (by omega)).1]
    refine s_sign CWL3 ⟨q.1, q.2.1⟩ h3 (by omega) hC (by omega) (fun ι1 C1 F1 => ⟨by rw [hL.2.2.2.2.1]; omega, ?_⟩)
    have g2 : MkC ι1 n0 L e (mM L e) := ⟨by rw [F1 5 n0 10 (by omega)]; exact h2.1, fun i hi => by rw [F1 30 n0 i (by omega), F1 31 n0 i (by omega)]; exact h2.2 i hi⟩
    have g3 : CS ι1 3 18 LM := h3.fr F1 (fun j => by omega)
    rw [(g2.2 k (by omega)).1, (g2.2 k (by omega)).2]
    have cl : ((l ++ sgb LM 18 (mkk L e k)).length : Int) ≤ l.length + 5 := by rw [app_len, sgb_len r.1]; omega
    refine bif_i (fun z => ⟨by rw [hL.2.2.2.2.2.1]; omega, by have := q.2.2 z; omega, ?_⟩) (fun z => ⟨by omega, ?_⟩)
    · have zz := q.2.2 z
      rw [if_pos z] at h
      refine s_pu (by omega) (by omega) (by omega) C1 (fun ι2 C2 F2 => ⟨by omega, ?_⟩)
      rw [show (k : Int) + 1 = ((k + 1 : Nat) : Int) by omega]
      refine ih (k + 1) _ ι2 (by omega) ⟨by rw [F2 5 n0 10 (by omega)]; exact g2.1, fun i hi => by rw [F2 30 n0 i (by omega), F2 31 n0 i (by omega)]; exact g2.2 i hi⟩ (g3.fr F2 (fun j => by omega)) C2 (by rw [app_len, bts_len]; omega) (fun ι' C3 F3 => h ι' ?_ ((F1.trans F2).trans F3))
      rw [List.append_assoc, List.append_assoc] at C3
      exact C3
    · rw [if_neg z, List.nil_append] at h
      rw [show (k : Int) + 1 = ((k + 1 : Nat) : Int) by omega]
      refine ih (k + 1) _ ι1 (by omega) g2 g3 C1 (by omega) (fun ι' C3 F3 => h ι' ?_ (F1.trans F3))
      rw [List.append_assoc] at C3
      exact C3
abbrev fTl (n0 : Int) (t : Nat) (i j : Int) : Prop := (t = 2 ∨ t = 20) ∧ i = 1 ∨ (i = n0 ∨ i = 3) ∧ (26 ≤ t ∧ t ≤ 34 ∨ t = 5 ∧ (j = 9 ∨ j = 10))
theorem s_tell (hn0 : n0 ≠ 3) (hL : CWL n0 a) (ha : 2 ≤ a ∧ a ≤ 704) (hWd : 1 ≤ Wd ∧ Wd ≤ 12) (hW1 : bm_p2 (Wd - 1) ≤ a - 1) (hW2 : a - 1 < bm_p2 Wd) (hB : sm w 0 a ≤ 2000) (hw0 : ∀ s, 0 ≤ s → s < a → 0 ≤ w s ∧ w s ≤ 2000) (hw : WgC ι n0 a w) (hC : CB ι l) (hr : (l.length : Int) + (74 + 8 * a) ≤ 32768) (h : ∀ (ι' : bm_S) (B : List Int) (L : Int → Int), Tld Wd a w L B → CB ι' (l ++ B) → CS ι' n0 a L → Fr (fTl n0) ι ι' → K ι') : bC sc 39 [br 5 n0, br 2 1, br 5 3] ι (bk0 K H) := by
  have hc := cu_rg w a.toNat
  have hSB : SB w a (cu w a.toNat) 2000 := SB_of (by omega) hc.1 (fun s x y => (hw0 s x y).1) hB
  refine e_CW_tell_0 (s_settle (m := 0) hL (by omega) (by omega) (by omega) (fun h2 => TE15 h2 hSB) (fun r hr => by have := hSB r hr; omega) (fun s x y => by have := hw0 s x y; omega) hw (fun ι1 n lone L hCL hS F1 => ?_))
  have C1 : CB ι1 l := hC.fr F1 (fun j => by omega)
  have hLr : ∀ s, 0 ≤ s → s < a → 0 ≤ L s ∧ L s ≤ 15 := fun s x y => by have := CL_rg (by omega) hCL s x y; omega
  have hn : n = cu w a.toNat := hCL.1
  rw [hS.1]
  refine bif_i (fun z => ?_) (fun z => ?_)
  · refine s_list hL (by omega) hLr hS.2.2.1 (fun ι2 hMk F2 => e_CW_start_0 (s_fill_26 (by rw [CWL3.1]; omega) (fun ι3 b3 F3 => ?_)))
    have er := eb_rg L a.toNat
    obtain ⟨e, he⟩ : ∃ e, e = eb L a.toNat := ⟨_, rfl⟩
    rw [← he] at hMk er
    rw [CWL3.1] at b3
    have hmm := mM_le (L := L) er.1
    have hkk : ∀ k : Nat, k < mM L e → 0 ≤ mkk L e k ∧ mkk L e k < 18 ∧ (mkk L e k = 17 → 3 ≤ rnn L e k ∧ rnn L e k ≤ 10) := fun k hk => by have := mkk_rg (fun s x y => hLr s x (by omega)) er.1 hk; exact ⟨this.1, this.2.1, this.2.2.1⟩
    have M3 : MkC ι3 n0 L e (mM L e) := ⟨by rw [F3 5 n0 10 (by omega)]; exact hMk.1, fun i hi => by rw [F3 30 n0 i (by omega), F3 31 n0 i (by omega)]; exact hMk.2 i hi⟩
    refine s_tell30 hL ha.2 (by omega) (fun k hk => ⟨(hkk k hk).1, (hkk k hk).2.1⟩) (mM L e) 0 ι3 (by omega) M3 (fun s x y => b3 s x y) (fun ι4 W4 F4 => ?_)
    have M4 : MkC ι4 n0 L e (mM L e) := ⟨by rw [F4 5 n0 10 (by omega)]; exact M3.1, fun i hi => by rw [F4 30 n0 i (by omega), F4 31 n0 i (by omega)]; exact M3.2 i hi⟩
    have cwr : ∀ s, 0 ≤ cw (mkk L e) (mM L e) s ∧ cw (mkk L e) (mM L e) s ≤ 704 := fun s => by have := cw_rg (f := mkk L e) s (mM L e); omega
    have hcm := cu_rg (cw (mkk L e) (mM L e)) (18 : Int).toNat
    have h18 : ((18 : Int).toNat : Int) = 18 := rfl
    refine e_CW_tell_30 (bif_t (by rw [M4.1]; omega) (s_settle (m := 11) CWL3 (by omega) (by omega) (by omega) (fun h2 => TE5 ⟨h2, by omega⟩ 10 _ (fun s x y => by have := cwr s; have : (2 : Int) ^ 10 = 1024 := rfl; omega)) (SB_of (by omega) hcm.1 (fun s x y => (cwr s).1) (by have := sm_cw_le (f := mkk L e) (a := 18) (by omega) (mM L e); omega)) (fun s x y => by have := cwr s; omega) W4 (fun ι5 nm lm LM hCM hSM F5 => ?_)))
    have hM5 := CL5 hCM
    have F15 : Fr (fTl n0) ι ι5 := ((((F1.wide fun t i j y => by omega).trans (F2.wide fun t i j y => by omega)).trans (F3.wide fun t i j y => by omega)).trans (F4.wide fun t i j y => by omega)).trans (F5.wide fun t i j y => by omega)
    have C5 : CB ι5 l := (((C1.fr F2 (fun j => by omega)).fr F3 (fun j => by omega)).fr F4 (fun j => by omega)).fr F5 (fun j => by omega)
    refine s_pu (by omega) (by omega) (by omega) C5 (fun ι6 C6 F6 => e_CW_tellAsMarks_0 (s_tm4 (M := fun s => if nm < 2 ∧ s = lm then 1 else LM s) (L := LM) (M_rg hM5) (fun _ _ _ => rfl) 18 0 0 _ ι6 _ _ (by omega) (by omega) (by omega) (by omega) C6 (by rw [app_len, bts_len]; omega) (by rw [F6 5 3 9 (by omega)]; exact hSM.1) (fun y => by rw [F6 29 3 0 (by omega)]; exact hSM.2.1 y) (fun s x y => by rw [F6 27 3 s (by omega)]; exact hSM.2.2.1 s x y) (fun ι7 C7 F7 => ?_)))
    have F57 : Fr fW ι5 ι7 := F6.trans F7
    have M7 : MkC ι7 n0 L e (mM L e) := ⟨by rw [F57 5 n0 10 (by omega), F5 5 n0 10 (by omega)]; exact M4.1, fun i hi => by rw [F57 30 n0 i (by omega), F57 31 n0 i (by omega), F5 30 n0 i (by omega), F5 31 n0 i (by omega)]; exact M4.2 i hi⟩
    have S7 : CS ι7 3 18 LM := CS.fr ⟨hSM.2.2.1, hSM.2.2.2⟩ F57 (fun j => by omega)
    have tl := tmb_len (M_rg (nm := nm) (lm := lm) hM5) 18 0 0 (by omega) (by omega)
    refine s_tell72 hL ha.2 (by omega) hkk hM5 (mM L e) 0 _ ι7 (by omega) M7 S7 C7 (by rw [app_len, app_len, bts_len]; omega) (fun ι8 C8 F8 => h ι8 (lngB L LM (fun s => if nm < 2 ∧ s = lm then 1 else LM s) e) L ⟨n, lone, hCL, Or.inr ⟨by omega, nm, lm, LM, ?_, ?_⟩⟩ ?_ ?_ ((F15.trans (F57.wide fun t i j y => by omega)).trans (F8.wide fun t i j y => by omega)))
    · rw [← he]; exact hCM
    · rw [he]
    · rw [List.append_assoc, List.append_assoc] at C8; exact C8
    · exact (((((CS.fr ⟨hS.2.2.1, hS.2.2.2⟩ F2 (fun j => by omega)).fr F3 (fun j => by omega)).fr F4 (fun j => by omega)).fr F5 (fun j => by omega)).fr F57 (fun j => by omega)).fr F8 (fun j => by omega)
  · have lr := lastp_rg w a.toNat
    have hl := hCL.2.1
    have fl := few_len ha hWd (by omega) hCL
    refine s_few hL ha hWd hW1 hW2 (by omega) (by omega) C1 hS (by omega) (fun ι2 C2 F2 => h ι2 _ L ⟨n, lone, hCL, Or.inl ⟨by omega, rfl⟩⟩ C2 (CS.fr ⟨hS.2.2.1, hS.2.2.2⟩ F2 (fun j => by omega)) ((F1.wide fun t i j y => by omega).trans (F2.wide fun t i j y => by omega)))
end PTell
