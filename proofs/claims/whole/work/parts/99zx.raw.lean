/-! pack: raw parts, both -/
section PRaw
variable {sc : bm_Sc} {H : Nat × Int → bm_S → Prop} {K : bm_S → Prop} {ι : bm_S} {l : List Int} {T : Int → Int} {N : Int}
/-- a byte out of its bits -/
def o8 (x b0 b1 b2 b3 b4 b5 b6 b7 : Int) : Int :=
  bm_byte (bm_or (bm_byte (bm_or (bm_byte (bm_or (bm_byte (bm_or (bm_byte (bm_or (bm_byte (bm_or (bm_byte (bm_or (bm_byte (bm_or x (b0 * bm_p2 0))) (b1 * bm_p2 1))) (b2 * bm_p2 2))) (b3 * bm_p2 3))) (b4 * bm_p2 4))) (b5 * bm_p2 5))) (b6 * bm_p2 6))) (b7 * bm_p2 7))
theorem o8_v : ((List.range 256).all fun v => decide (o8 0 ((v : Int) / bm_p2 0 % 2) ((v : Int) / bm_p2 1 % 2) ((v : Int) / bm_p2 2 % 2) ((v : Int) / bm_p2 3 % 2) ((v : Int) / bm_p2 4 % 2) ((v : Int) / bm_p2 5 % 2) ((v : Int) / bm_p2 6 % 2) ((v : Int) / bm_p2 7 % 2) = bm_byte v)) = true := by decide +kernel
theorem wb_i {f : Int → Int} {s i b k : Int} (hi : 0 ≤ i ∧ i < 8) : wb f (8 * s + i) b k = if k = s then bm_byte (bm_or (if i = 0 then 0 else f s) (b * bm_p2 i)) else f k := by
  rw [wb_by, show (8 * s + i) / 8 = s by omega, show (8 * s + i) % 8 = i by omega]
theorem ap8 {f : Int → Int} {s v k : Int} (hv : 0 ≤ v ∧ v < 256) : ap (bts v 8 0) f (8 * s) k = if k = s then bm_byte v else f k := by
  have h1 := List.all_eq_true.mp o8_v v.toNat (List.mem_range.mpr (by omega))
  rw [show ((v.toNat : Nat) : Int) = v by omega] at h1
  have h2 := of_decide_eq_true h1
  have e : ap (bts v 8 0) f (8 * s) = wb (wb (wb (wb (wb (wb (wb (wb f (8 * s + 0) (v / bm_p2 0 % 2)) (8 * s + 1) (v / bm_p2 1 % 2)) (8 * s + 2) (v / bm_p2 2 % 2)) (8 * s + 3) (v / bm_p2 3 % 2)) (8 * s + 4) (v / bm_p2 4 % 2)) (8 * s + 5) (v / bm_p2 5 % 2)) (8 * s + 6) (v / bm_p2 6 % 2)) (8 * s + 7) (v / bm_p2 7 % 2) := by
    show wb (wb (wb (wb (wb (wb (wb (wb f (8 * s) (v / bm_p2 0 % 2)) (8 * s + 1) (v / bm_p2 (0 + 1) % 2)) (8 * s + 1 + 1) (v / bm_p2 (0 + 1 + 1) % 2)) (8 * s + 1 + 1 + 1) (v / bm_p2 (0 + 1 + 1 + 1) % 2)) (8 * s + 1 + 1 + 1 + 1) (v / bm_p2 (0 + 1 + 1 + 1 + 1) % 2)) (8 * s + 1 + 1 + 1 + 1 + 1) (v / bm_p2 (0 + 1 + 1 + 1 + 1 + 1) % 2)) (8 * s + 1 + 1 + 1 + 1 + 1 + 1) (v / bm_p2 (0 + 1 + 1 + 1 + 1 + 1 + 1) % 2)) (8 * s + 1 + 1 + 1 + 1 + 1 + 1 + 1) (v / bm_p2 (0 + 1 + 1 + 1 + 1 + 1 + 1 + 1) % 2) = _
    rw [show 8 * s + 1 + 1 + 1 + 1 + 1 + 1 + 1 = 8 * s + 7 by omega, show 8 * s + 1 + 1 + 1 + 1 + 1 + 1 = 8 * s + 6 by omega, show 8 * s + 1 + 1 + 1 + 1 + 1 = 8 * s + 5 by omega, show 8 * s + 1 + 1 + 1 + 1 = 8 * s + 4 by omega, show 8 * s + 1 + 1 + 1 = 8 * s + 3 by omega, show 8 * s + 1 + 1 = 8 * s + 2 by omega, show 8 * s + 0 = 8 * s by omega]
    rfl
  rw [e]
  by_cases z : k = s
  · rw [if_pos z, z, ← h2]
    rw [wb_i (i := 7) (by omega), if_pos rfl, if_neg (show ¬ (7 : Int) = 0 by omega)]
    rw [wb_i (i := 6) (by omega), if_pos rfl, if_neg (show ¬ (6 : Int) = 0 by omega)]
    rw [wb_i (i := 5) (by omega), if_pos rfl, if_neg (show ¬ (5 : Int) = 0 by omega)]
    rw [wb_i (i := 4) (by omega), if_pos rfl, if_neg (show ¬ (4 : Int) = 0 by omega)]
    rw [wb_i (i := 3) (by omega), if_pos rfl, if_neg (show ¬ (3 : Int) = 0 by omega)]
    rw [wb_i (i := 2) (by omega), if_pos rfl, if_neg (show ¬ (2 : Int) = 0 by omega)]
    rw [wb_i (i := 1) (by omega), if_pos rfl, if_neg (show ¬ (1 : Int) = 0 by omega)]
    rw [wb_i (i := 0) (by omega), if_pos rfl, if_pos (show (0 : Int) = 0 by omega)]
    rfl
  · rw [if_neg z, wb_i (i := 7) (by omega), if_neg z, wb_i (i := 6) (by omega), if_neg z, wb_i (i := 5) (by omega), if_neg z, wb_i (i := 4) (by omega), if_neg z, wb_i (i := 3) (by omega), if_neg z, wb_i (i := 2) (by omega), if_neg z, wb_i (i := 1) (by omega), if_neg z, wb_i (i := 0) (by omega), if_neg z]
/-- a bit 0 within a byte changes nothing -/
theorem wb_0 {f : Int → Int} {p k : Int} (hp : p % 8 ≠ 0) (hr : -128 ≤ f (p / 8) ∧ f (p / 8) < 128) : wb f p 0 k = f k := by
  rw [wb_by, if_neg hp, show 0 * bm_p2 (p % 8) = 0 by omega, by_or_0, by_id hr]
  by_cases z : k = p / 8
  · rw [if_pos z, z]
  · rw [if_neg z]
def l0 (l : List Int) : Int → Int := ap l (fun _ => 0) 0
theorem l0_rg : ∀ k, 0 ≤ k → k < ((l.length : Int) + 7) / 8 → -128 ≤ l0 l k ∧ l0 l k < 128 := fun k x y => ap_rg l (fun _ => 0) 0 (by omega) (fun k x y => by omega) k x (by rw [show (0 : Int) + (l.length : Int) = l.length by omega]; exact y)
theorem l0_app (l m : List Int) : l0 (l ++ m) = ap m (l0 l) l.length := by unfold l0; rw [ap_app, show (0 : Int) + (l.length : Int) = l.length by omega]
theorem l0_000 {k : Int} (h : (l.length : Int) % 8 = 5) (hk : 0 ≤ k) : l0 (l ++ [0, 0, 0]) k = l0 l k := by
  have r := l0_rg (l := l) ((l.length : Int) / 8) (by omega) (by omega)
  rw [l0_app]
  show wb (wb (wb (l0 l) l.length 0) (l.length + 1) 0) (l.length + 1 + 1) 0 k = l0 l k
  have e1 : ∀ k, wb (l0 l) l.length 0 k = l0 l k := fun k => wb_0 (by omega) r
  have e2 : ∀ k, wb (wb (l0 l) l.length 0) (l.length + 1) 0 k = l0 l k := fun k => by
    rw [wb_0 (by omega) (by rw [e1, show ((l.length : Int) + 1) / 8 = (l.length : Int) / 8 by omega]; exact r), e1]
  rw [wb_0 (by omega) (by rw [e2, show ((l.length : Int) + 1 + 1) / 8 = (l.length : Int) / 8 by omega]; exact r), e2]
def rwB (T : Int → Int) : Nat → Int → List Int
  | 0, _ => []
  | m + 1, p => bts (T p % 256) 8 0 ++ rwB T m (p + 1)
theorem rwB_s (m : Nat) (p : Int) : rwB T (m + 1) p = bts (T p % 256) 8 0 ++ rwB T m (p + 1) := rfl
theorem rwB_len : ∀ (m : Nat) (p : Int), ((rwB T m p).length : Int) = 8 * m
  | 0, _ => rfl
  | m + 1, p => by rw [rwB_s, app_len, bts_len, rwB_len m]; omega
/-- comp adds a byte -/
theorem s_add8 {s b x : Int} (hb : By ι 1 s b (l0 l)) (hl : (l.length : Int) = 8 * s) (hs : 0 ≤ s ∧ s < 4096) (hx : 0 ≤ x ∧ x < 256) (h : ∀ ι' : bm_S, CB ι' (l ++ bts x 8 0) → Fr fW ι ι' → K ι') : bC sc 17 [br 2 1, bi x] ι (bk0 K H) := by
  refine s_add (Or.inr rfl) hb (by rw [L20_1]; exact hs) (fun ι' b' F => h ι' ?_ F.fr)
  obtain ⟨b1, b2, b3⟩ := b'
  have e : ((l ++ bts x 8 0).length : Int) = 8 * (s + 1) := by rw [app_len, bts_len]; omega
  show By ι' 1 ((((l ++ bts x 8 0).length : Int) + 7) / 8) ((l ++ bts x 8 0).length : Int) (l0 (l ++ bts x 8 0))
  rw [e]
  refine ⟨by rw [b1]; omega, b2, fun k k0 k1 => ?_⟩
  rw [b3 k k0 (by omega), l0_app, hl, ap8 hx]
  rfl
theorem s_raw37 (hN : N ≤ 2000) : ∀ (m : Nat) (j s b : Int) (l : List Int) (ι : bm_S), j + m = N → 0 ≤ j → 0 < m → By ι 1 s b (l0 l) → (l.length : Int) = 8 * s → 0 ≤ s → s + m < 4096 → TCo ι T N → (∀ ι' : bm_S, CB ι' (l ++ rwB T m j) → Fr fW ι ι' → K ι') → bW sc 95 37 [br 9 0, bi N, bi j] [] ι (bk0 K H) := by
  intro m
  induction m with
  | zero => intro j s b l ι hj j0 m0; omega
  | succ m ih =>
    intro j s b l ι hj j0 m0 hb hl s0 s1 hT h
    rw [rwB_s] at h
    refine e_P_writeRaw_37 (bif_f (by omega) (s_tb (by omega) hT ?_))
    rw [tb_in (by omega)]
    refine s_add8 hb hl (by omega) (by omega) (fun ι1 C1 F1 => ⟨by omega, ?_⟩)
    by_cases z : m = 0
    · subst z
      refine e_P_writeRaw_37 (bif_t (by omega) (h ι1 ?_ F1))
      show CB ι1 (l ++ (bts (T j % 256) 8 0 ++ [])); rw [List.append_nil]; exact C1
    · have e : ((l ++ bts (T j % 256) 8 0).length : Int) = 8 * (s + 1) := by rw [app_len, bts_len]; omega
      refine ih (j + 1) (s + 1) (8 * (s + 1)) _ ι1 (by omega) (by omega) (by omega) ?_ e (by omega) (by omega) (hT.fr F1 (fun j => by omega)) (fun ι' C2 F2 => h ι' (by rw [List.append_assoc] at C2; exact C2) (F1.trans F2))
      have C1' : By ι1 1 ((((l ++ bts (T j % 256) 8 0).length : Int) + 7) / 8) ((l ++ bts (T j % 256) 8 0).length : Int) (l0 (l ++ bts (T j % 256) 8 0)) := C1
      rw [e, show (8 * (s + 1) + 7) / 8 = s + 1 by omega] at C1'
      exact C1'
theorem s_raw (hN : 1 ≤ N ∧ N ≤ 2000) (hl : (l.length : Int) = 17) (hT : TCo ι T N) (hC : CB ι l) (h : ∀ ι' : bm_S, CB ι' (((((l ++ bts 0 3 0) ++ bts (N - 1) 16 0) ++ bts 1 1 0) ++ [0, 0, 0]) ++ rwB T N.toNat 0) → Fr fW ι ι' → K ι') : bC sc 95 [br 9 0, bi N] ι (bk0 K H) := by
  refine e_P_writeRaw_0 (bif_f (by omega) (s_pu (by omega) (by omega) (by omega) hC (fun ι1 C1 F1 => ⟨by omega, s_pu (by omega) (by omega) (by rw [app_len, bts_len]; omega) C1 (fun ι2 C2 F2 => s_pu (by omega) (by omega) (by rw [app_len, app_len, bts_len, bts_len]; omega) C2 (fun ι3 C3 F3 => ?_))⟩)))
  have F13 := (F1.trans F2).trans F3
  have e : ((((l ++ bts 0 3 0) ++ bts (N - 1) 16 0) ++ bts 1 1 0).length : Int) = 37 := by rw [app_len, app_len, app_len, bts_len, bts_len, bts_len]; omega
  have C3' : By ι3 1 ((((((l ++ bts 0 3 0) ++ bts (N - 1) 16 0) ++ bts 1 1 0).length : Int) + 7) / 8) ((((l ++ bts 0 3 0) ++ bts (N - 1) 16 0) ++ bts 1 1 0).length : Int) (l0 (((l ++ bts 0 3 0) ++ bts (N - 1) 16 0) ++ bts 1 1 0)) := C3
  rw [e] at C3'
  obtain ⟨b1, b2, b3⟩ := C3'
  refine s_raw37 hN.2 N.toNat 0 5 37 ((((l ++ bts 0 3 0) ++ bts (N - 1) 16 0) ++ bts 1 1 0) ++ [0, 0, 0]) ι3 (by omega) (by omega) (by omega) ⟨b1, b2, fun k k0 k1 => ?_⟩ (by rw [app_len, e]; rfl) (by omega) (by omega) (hT.fr F13 (fun j => by omega)) (fun ι' C4 F4 => h ι' C4 (F13.trans F4))
  rw [b3 k k0 (by omega), l0_000 (by rw [e]; rfl) k0]
/-! the other -/
theorem m_raw43 (hN : N ≤ 2000) : ∀ (m : Nat) (j : Int) (l : List Int) (ι : bm_S), j + m = N → 0 ≤ j → MB ι l → (l.length : Int) + 8 * m + 2 ≤ 32768 → TMo ι T N → (∀ ι' : bm_S, MB ι' ((l ++ rwB T m j) ++ bts 3 2 0) → Fr gW ι ι' → K ι') → bW sc 257 43 [br 13 0, bi j] [] ι (bk0 K H) := by
  intro m
  induction m with
  | zero =>
    intro j l ι hj j0 hC hr hT h
    have e : l ++ rwB T 0 j = l := by show l ++ [] = l; rw [List.append_nil]
    rw [e] at h
    exact e_M_packRaw_43 (bif_t (by rw [hT.1]; omega) (m_pu (by omega) (by omega) hC h))
  | succ m ih =>
    intro j l ι hj j0 hC hr hT h
    rw [rwB_s] at h
    refine e_M_packRaw_43 (bif_f (by rw [hT.1]; omega) ⟨by omega, ?_⟩)
    rw [hT.2 j j0 (by omega)]
    refine m_pu (by omega) (by omega) hC (fun ι1 C1 F1 => ⟨by omega, ?_⟩)
    refine ih (j + 1) _ ι1 (by omega) (by omega) C1 (by rw [app_len, bts_len]; omega) (TMo_fr hT F1 ⟨by omega, fun j => by omega⟩) (fun ι' C2 F2 => h ι' ?_ (F1.trans F2))
    rw [List.append_assoc l] at C2; exact C2
theorem m_raw (hN : 1 ≤ N ∧ N ≤ 2000) (hl : (l.length : Int) = 17) (hT : TMo ι T N) (hC : MB ι l) (h : ∀ ι' : bm_S, MB ι' ((((((l ++ bts 0 3 0) ++ bts (N - 1) 16 0) ++ bts 1 1 0) ++ [0, 0, 0]) ++ rwB T N.toNat 0) ++ bts 3 2 0) → Fr gW ι ι' → K ι') : bC sc 257 [br 13 0] ι (bk0 K H) := by
  refine e_M_packRaw_0 (bif_f (by rw [hT.1]; omega) (m_pu (by omega) (by omega) hC (fun ι1 C1 F1 => m_pu (by omega) (by rw [app_len, bts_len]; omega) C1 (fun ι2 C2 F2 => ?_))))
  have T2 := TMo_fr (TMo_fr hT F1 ⟨by omega, fun j => by omega⟩) F2 ⟨by omega, fun j => by omega⟩
  rw [T2.1]
  have C2' : MB ι2 (l ++ bts 0 3 0) := by rw [List.append_assoc] at C2; exact C2
  refine ⟨by omega, m_pu (by omega) (by rw [app_len, bts_len]; omega) C2' (fun ι3 C3 F3 => m_pu (by omega) (by rw [app_len, app_len, bts_len, bts_len]; omega) C3 (fun ι4 C4 F4 => ?_))⟩
  have e : ((((l ++ bts 0 3 0) ++ bts (N - 1) 16 0) ++ bts 1 1 0).length : Int) = 37 := by rw [app_len, app_len, app_len, bts_len, bts_len, bts_len]; omega
  have C4' : WMo ι4 (l0 (((l ++ bts 0 3 0) ++ bts (N - 1) 16 0) ++ bts 1 1 0)) ((((l ++ bts 0 3 0) ++ bts (N - 1) 16 0) ++ bts 1 1 0).length : Int) := C4
  rw [e] at C4'
  obtain ⟨c1, c2, c3⟩ := C4'
  refine e_M_writeToByte_0 ?_
  rw [c1]
  have F5 : Fr gW ι4 (up ι4 13 0 43 (8 * ((37 + 7) / 8))) := (Fr.refl _ _).u (by omega)
  have F15 := ((F1.trans F2).trans (F3.trans F4)).trans F5
  have e5 : (((((l ++ bts 0 3 0) ++ bts (N - 1) 16 0) ++ bts 1 1 0) ++ [0, 0, 0]).length : Int) = 40 := by rw [app_len, e]; rfl
  have C5 : MB (up ι4 13 0 43 (8 * ((37 + 7) / 8))) ((((l ++ bts 0 3 0) ++ bts (N - 1) 16 0) ++ bts 1 1 0) ++ [0, 0, 0]) := by
    show WMo _ (l0 ((((l ++ bts 0 3 0) ++ bts (N - 1) 16 0) ++ bts 1 1 0) ++ [0, 0, 0])) (((((l ++ bts 0 3 0) ++ bts (N - 1) 16 0) ++ bts 1 1 0) ++ [0, 0, 0]).length : Int)
    rw [e5]
    refine ⟨by rw [up_j (by omega), c1]; rfl, by rw [up_s]; rfl, fun k k0 k1 => ?_⟩
    rw [up_k (by decide), c3 k k0 (by omega), l0_000 (by rw [e]; rfl) k0]
  exact ⟨by omega, m_raw43 hN.2 N.toNat 0 _ _ (by omega) (by omega) C5 (by rw [e5]; omega) (TMo_fr hT F15 ⟨by omega, fun j => by omega⟩) (fun ι' C6 F6 => h ι' C6 (F15.trans F6))⟩
end PRaw
