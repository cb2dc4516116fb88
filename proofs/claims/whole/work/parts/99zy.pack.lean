/-! pack, whole: both -/
section Pack
variable {sc : bm_Sc} {H : Nat × Int → bm_S → Prop} {K : bm_S → Prop} {ι : bm_S} {T : Int → Int} {N : Int} {g c : Int → Int} {lv : Int} {f wyf : Int → Int}
/-- what comp has written, up to a whole byte -/
def FB (ι : bm_S) (B : List Int) : Prop := By ι 1 (((B.length : Int) + 7) / 8) (8 * (((B.length : Int) + 7) / 8)) (l0 B)
theorem s_fb {B : List Int} (hC : CB ι B) (hr : (B.length : Int) ≤ 32768) (h : ∀ ι' : bm_S, FB ι' B → Fr fW ι ι' → K ι') : bC sc 20 [br 2 1] ι (bk0 K H) := by
  have C' : By ι 1 (((B.length : Int) + 7) / 8) (B.length : Int) (l0 B) := hC
  exact s_fillByte (Or.inr rfl) C' (by rw [L20_1]; omega) (fun ι' b F => h ι' b F.fr)
def pre (d : Int) : List Int := bts d 16 0 ++ bts 0 1 0
theorem pre_len (d : Int) : ((pre d).length : Int) = 17 := by unfold pre; rw [app_len, bts_len, bts_len]; rfl
def rawL (d N : Int) (T : Int → Int) : List Int := (((((pre d ++ bts 0 3 0) ++ bts (N - 1) 16 0) ++ bts 1 1 0) ++ [0, 0, 0]) ++ rwB T N.toNat 0)
theorem rawL_len (d : Int) (hN : 0 ≤ N) : ((rawL d N T).length : Int) = 40 + 8 * N := by
  unfold rawL
  rw [app_len, app_len, app_len, app_len, app_len, pre_len, bts_len, bts_len, bts_len, rwB_len]
  show 17 + ((3 : Nat) : Int) + ((16 : Nat) : Int) + ((1 : Nat) : Int) + ((3 : Nat) : Int) + 8 * (N.toNat : Int) = 40 + 8 * N
  omega
def codL (d N : Int) (T : Int → Int) (A : Int → Int → Int) (nc : Nat) (B0 B1 B2 : List Int) (L0 L1 L2 : Int → Int) : List Int := (pre d ++ hdB N B0 B1 B2) ++ cmdB A T L0 L1 L2 nc 0 0
def Cods (f wyf T : Int → Int) (N : Int) (A : Int → Int → Int) (nc ix : Nat) (B0 B1 B2 : List Int) (L0 L1 L2 : Int → Int) : Prop := rch f N ix = N ∧ Tld 8 256 (cw (flt f wyf T N) ix) L0 B0 ∧ Tld 10 704 (cw (fun i => A 3 (i : Int)) nc) L1 B1 ∧ Tld 6 64 (cw (fun i => A 4 (i : Int)) nc) L2 B2
theorem Tld_rg {Wd a : Int} {w L : Int → Int} {B : List Int} (h : Tld Wd a w L B) : ∀ s, 0 ≤ s → s < a → 0 ≤ L s ∧ L s ≤ 15 := fun s x y => by
  obtain ⟨n, lone, hC, -⟩ := h
  have := CL_rg (by omega) hC s x y; omega
theorem codL_len {d : Int} {A : Int → Int → Int} {nc ix : Nat} {B0 B1 B2 : List Int} {L0 L1 L2 : Int → Int} (hN : 0 ≤ N ∧ N ≤ 2000) (hf : ∀ p, 0 ≤ p → p < N → 1 ≤ f p ∧ p + f p ≤ N) (hf4 : ∀ p, 0 ≤ p → p < N → wyf p ≠ 0 → 4 ≤ f p) (hL : LSt f wyf N A nc 0 0) (hC : Cods f wyf T N A nc ix B0 B1 B2 L0 L1 L2) : ((pre d ++ hdB N B0 B1 B2).length : Int) ≤ 8464 ∧ ((codL d N T A nc B0 B1 B2 L0 L1 L2).length : Int) ≤ 32768 := by
  obtain ⟨hx, t0, t1, t2⟩ := hC
  have b0 := Tld_len (by omega) (by omega) t0
  have b1 := Tld_len (by omega) (by omega) t1
  have b2 := Tld_len (by omega) (by omega) t2
  have h1 : ((pre d ++ hdB N B0 B1 B2).length : Int) ≤ 8464 := by
    unfold hdB
    rw [app_len, app_len, app_len, app_len, app_len, app_len, pre_len, bts_len, bts_len, bts_len]; omega
  refine ⟨h1, ?_⟩
  have r0 := Tld_rg t0
  obtain ⟨iy, y1, y2⟩ := cmdB_len (T := T) (L0 := L0) (L1 := L1) (L2 := L2) hN hf hf4 (fun s x y => (r0 s x y).1) (Tld_rg t1) (Tld_rg t2) nc 0 0 hL
  have z1 : sm (fun s => cw (flt f wyf T N) 0 s * L0 s) 0 256 = 0 := by
    rw [sm_c (g := fun _ => 0) (fun s x y => by show 0 * L0 s = 0; rw [Int.zero_mul]), sm_0]
  have z2 : sm (cw (flt f wyf T N) 0) 0 256 = 0 := sm_0
  have z3 : rch f N 0 = 0 := rfl
  have e1 : sm (fun s => cw (flt f wyf T N) iy s * L0 s) 0 256 = sm (fun s => cw (flt f wyf T N) ix s * L0 s) 0 256 := sm_c (fun s x y => by show cw (flt f wyf T N) iy s * L0 s = cw (flt f wyf T N) ix s * L0 s; rw [cw_end hf y1 hx x])
  have e2 : sm (cw (flt f wyf T N) iy) 0 256 = sm (cw (flt f wyf T N) ix) 0 256 := sm_c (fun s x y => cw_end hf y1 hx x)
  have s0 := lit_le (wyf := wyf) (T := T) hN.1 hf ix
  obtain ⟨n, lone, hCL, -⟩ := t0
  have co := cost_le (by omega) (fun s x y => (cw_rg (f := flt f wyf T N) s ix).1) (by omega) hCL
  have w0 : 0 ≤ sm (cw (flt f wyf T N) ix) 0 256 := by have := sm_ge (f := cw (flt f wyf T N) ix) (b := 0) (lo := 0) (hi := 256) (by omega) (fun k x y => (cw_rg (f := flt f wyf T N) k ix).1); omega
  rw [z1, z2, z3, e1, e2] at y2
  have y3 : (if nc = 0 then (0 : Int) else 100) ≤ 100 := by split <;> omega
  have fin : 4 * ((cmdB A T L0 L1 L2 nc 0 0).length : Int) ≤ 94100 := by omega
  unfold codL
  rw [app_len]
  omega
abbrev fPk (t : Nat) (i j : Int) : Prop := (t = 2 ∨ t = 20) ∧ i = 1 ∨ t = 9 ∧ j = 4 ∨ 26 ≤ t ∧ t ≤ 42 ∨ t = 5 ∧ (j = 9 ∨ j = 10) ∨ t = 6 ∧ (j = 10 ∨ j = 11) ∨ 55 ≤ t ∧ t ≤ 63
theorem s_packAll {x1 d : Int} {nc : Nat} {A A0 : Int → Int → Int} {rg' : Int → Int} (hx : 0 ≤ x1 ∧ x1 ≤ 2) (hN : 0 ≤ N ∧ N ≤ 2000) (h211 : 0 ≤ ι 2 1 1 ∧ ι 2 1 1 ≤ 4096) (hw : Jw ι) (hd : d = dg (ι 64 0) (ι 65 0)) (hT : TCo ι T N) (hTr : ∀ k, 0 ≤ k → k < N → -128 ≤ T k ∧ T k < 128) (hG : GV g c) (hG1 : GCo ι g c) (hf : f = mk x1 (cf T N) (wdM T N g c) N) (hwy : wyf = wy x1 (cf T N) (wdM T N g c) N) (hf4 : ∀ p, 0 ≤ p → p < N → wyf p ≠ 0 → 4 ≤ f p) (hnc : nc ≤ 501)
    (hL : 0 < N → 1 ≤ x1 → LSt f wyf N A nc 0 0)
    (hj : 0 < N → 1 ≤ x1 → ∀ (ι : bm_S) (K : bm_S → Prop) (H : Nat × Int → bm_S → Prop), CmC ι 0 A0 rg0 → ChC ι T N g c x1 → GCo ι g c → (∀ ι' : bm_S, CmC ι' nc A rg' → Fr fCm ι ι' → K ι') → bW sc 100 11 [br 9 0, bi N, bi 0, bi 0] [] ι (bk0 K H))
    (h0 : N = 0 → ∀ ι' : bm_S, FB ι' (pre d ++ bts 3 2 0) → ι' 9 0 4 = 0 → Fr fPk ι ι' → K ι')
    (hr : 0 < N → x1 = 0 → ∀ ι' : bm_S, FB ι' (rawL d N T ++ bts 3 2 0) → ι' 9 0 4 = 0 → Fr fPk ι ι' → K ι')
    (hc : 0 < N → 1 ≤ x1 → ∀ (ι' : bm_S) (ix : Nat) (B0 B1 B2 : List Int) (L0 L1 L2 : Int → Int), Cods f wyf T N A nc ix B0 B1 B2 L0 L1 L2 → FB ι' (codL d N T A nc B0 B1 B2 L0 L1 L2) → CmA ι' nc A → Fr fPk ι ι' → K ι') : bC sc 94 [br 9 0, bi x1] ι (bk0 K H) := by
  have dr := dg_rg (ι 64 0) (ι 65 0)
  rw [← hd] at dr
  refine e_P_packAll_0 ?_
  have F0 : Fr fPk ι (up ι 9 0 4 0) := (Fr.refl _ _).u (by omega)
  refine s_cut (s := ι 2 1 1) (b := ι 2 1 2) (f := ι 20 1) (Or.inr rfl) ⟨by simp (disch := omega) only [up_s, up_k, up_j, up_i], by simp (disch := omega) only [up_s, up_k, up_j, up_i], fun k _ _ => by simp (disch := omega) only [up_s, up_k, up_j, up_i]⟩ (by rw [L20_1]; exact h211) (fun ι1 b1 F1 => ?_)
  have F1' := F1.fr
  have F01 : Fr fPk ι ι1 := F0.trans (F1'.wide fun t i j y => by omega)
  have w1 : Jw ι1 := hw.to F01 (fun j => by omega)
  have C1 : CB ι1 [] := by
    show By ι1 1 (((0 : Nat) + 7 : Int) / 8) ((0 : Nat) : Int) _
    exact ⟨by rw [b1.1]; omega, by rw [b1.2.1]; omega, fun k x y => by omega⟩
  have ed : dg (ι1 64 0) (ι1 65 0) = d := by
    rw [hd, show ι1 64 0 = ι 64 0 from funext fun j => F01 64 0 j (by omega), show ι1 65 0 = ι 65 0 from funext fun j => F01 65 0 j (by omega)]
  refine s_digestOfAll w1 ?_
  rw [ed]
  refine s_pu (by omega) (by omega) (by show ((0 : Nat) : Int) + 16 ≤ 32768; omega) C1 (fun ι2 C2 F2 => s_pu (by omega) (by omega) (by rw [List.nil_append, bts_len]; omega) C2 (fun ι3 C3 F3 => ?_))
  have C3' : CB ι3 (pre d) := C3
  have F03 : Fr fPk ι ι3 := (F01.trans (F2.wide fun t i j y => by omega)).trans (F3.wide fun t i j y => by omega)
  have pl := pre_len d
  have T3 : TCo ι3 T N := hT.fr F03 (fun j => by omega)
  have G3 : GCo ι3 g c := hG1.fr F03 (fun j => by omega)
  have e94 : ι3 9 0 4 = 0 := by rw [F3 9 0 4 (by omega), F2 9 0 4 (by omega), F1' 9 0 4 (by omega)]; simp (disch := omega) only [up_s, up_k, up_j, up_i]
  rw [hT.1, show min N 2000 = N by omega]
  refine bif_i (fun z => ?_) (fun z => bif_i (fun y => ?_) (fun y => ?_))
  · refine e_P_writeRaw_0 (bif_t (by omega) (s_pu (by omega) (by omega) (by omega) C3' (fun ι4 C4 F4 => s_fb C4 (by rw [app_len, bts_len]; omega) (fun ι5 b5 F5 => h0 (by omega) ι5 b5 (by rw [F5 9 0 4 (by omega), F4 9 0 4 (by omega)]; exact e94) ((F03.trans (F4.wide fun t i j y => by omega)).trans (F5.wide fun t i j y => by omega))))))
  · have rl := rawL_len (T := T) d hN.1
    refine s_raw (by omega) pl T3 C3' (fun ι4 C4 F4 => s_pu (by omega) (by omega) (by show ((rawL d N T).length : Int) + 2 ≤ 32768; omega) C4 (fun ι5 C5 F5 => s_fb C5 (by show ((rawL d N T ++ bts 3 2 0).length : Int) ≤ 32768; rw [app_len, bts_len]; omega) (fun ι6 b6 F6 => hr (by omega) (by omega) ι6 b6 (by rw [F6 9 0 4 (by omega), F5 9 0 4 (by omega), F4 9 0 4 (by omega)]; exact e94) (((F03.trans (F4.wide fun t i j y => by omega)).trans (F5.wide fun t i j y => by omega)).trans (F6.wide fun t i j y => by omega)))))
  · have hmk : ∀ p, 0 ≤ p → p < N → 1 ≤ f p ∧ p + f p ≤ N := by rw [hf]; exact mk_ab hN.2
    have hLS := hL (by omega) (by omega)
    refine s_choose (by omega) hN hG hTr T3 G3 (fun ι4 q4 F4 => ?_)
    have F04 : Fr fPk ι ι4 := F03.trans (F4.wide fun t i j y => by omega)
    have C4 : CB ι4 (pre d) := C3'.fr F4 (fun j => by omega)
    refine e_P_listCommands_0 (e_X_startRing_63_0 ⟨by omega, by omega, by omega, by omega, ?_⟩)
    obtain ⟨ι5, h5⟩ : ∃ ι5, ι5 = up (up (up (up ι4 63 0 0 4) 63 0 1 11) 63 0 2 15) 63 0 3 16 := ⟨_, rfl⟩
    have F5 : Fr (fun t _ _ => t = 63) ι4 ι5 := by rw [h5]; exact ((((Fr.refl _ _).u rfl).u rfl).u rfl).u rfl
    have r5 : ∀ i, 0 ≤ i → i < 4 → ι5 63 0 i = rg0 i := fun i x y => by
      have : i = 0 ∨ i = 1 ∨ i = 2 ∨ i = 3 := by omega
      rw [h5]
      rcases this with rfl | rfl | rfl | rfl <;> simp (disch := omega) only [up_s, up_k, up_j, up_i] <;> rfl
    rw [← h5]
    refine hj (by omega) (by omega) ι5 _ _ ⟨by rw [F5 9 0 4 (by omega), F4 9 0 4 (by omega)]; exact e94, fun k x y => by omega, r5⟩ (q4.fr F5 (fun q => by omega)) ((G3.fr F4 (fun j => by omega)).fr F5 (fun j => by omega)) (fun ι6 q6 F6 => ?_)
    have A6 : CmA ι6 nc A := ⟨q6.1, q6.2.1⟩
    have T6 : TCo ι6 T N := ((T3.fr F4 (fun j => by omega)).fr F5 (fun j => by omega)).fr F6 (fun j => by omega)
    have C6 : CB ι6 (pre d) := (C4.fr F5 (fun j => by omega)).fr F6 (fun j => by omega)
    have F06 : Fr fPk ι ι6 := (F04.trans (F5.wide fun t i j y => by omega)).trans (F6.wide fun t i j y => by omega)
    refine s_tellPart (by omega) hmk hf4 hnc hLS A6 T6 C6 (by omega) (fun ι7 ix B0 B1 B2 L0 L1 L2 hx0 t0 t1 t2 C7 S0 S1 S2 F7 => ?_)
    have hC : Cods f wyf T N A nc ix B0 B1 B2 L0 L1 L2 := ⟨hx0, t0, t1, t2⟩
    have cl := codL_len (d := d) hN hmk hf4 hLS hC
    have A7 := A6.fr F7 ⟨by omega, fun t j _ _ => by omega⟩
    have cl2 := cl.2
    unfold codL at cl2
    rw [app_len] at cl2
    refine e_P_writeCommands_0 (s_cm4 (T := T) hN hmk hf4 hnc (Tld_rg t0) (Tld_rg t1) (Tld_rg t2) nc 0 0 _ ι7 _ _ _ hLS (by omega) ⟨A7, T6.fr F7 (fun j => by omega), S0, S1, S2⟩ C7 cl2 (fun ι8 C8 F8 => s_fb C8 cl.2 (fun ι9 b9 F9 => hc (by omega) (by omega) ι9 ix B0 B1 B2 L0 L1 L2 hC b9 ((A7.fr F8 ⟨by omega, fun t j _ _ => by omega⟩).fr F9 ⟨by omega, fun t j _ _ => by omega⟩) (((F06.trans (F7.wide fun t i j y => by omega)).trans (F8.wide fun t i j y => by omega)).trans (F9.wide fun t i j y => by omega)))))
/-! the other -/
theorem m_in31 {Q : bm_O → bm_S → Prop} {x1 : Int} (hN : N ≤ 2400) : ∀ (m : Nat) (x : Int) (ι : bm_S), x = N - m → 0 ≤ x → ι 13 0 3 = N → (∀ k, 0 ≤ k → k < x → ι 74 0 k = T k) → (∀ k, 0 ≤ k → k < N → ι 66 0 k = T k ∧ -128 ≤ T k ∧ T k < 128) → (∀ ι' : bm_S, (∀ k, 0 ≤ k → k < N → ι' 74 0 k = T k) → Fr (fun t _ _ => t = 74) ι ι' → bW sc 259 31 [br 13 0, bi x1, bi N] [] ι' Q) → bW sc 259 31 [br 13 0, bi x1, bi x] [] ι Q := by
  intro m
  induction m with
  | zero =>
    intro x ι hx h0 h3 a b h
    have := h ι (fun k x y => a k x (by omega)) (Fr.refl _ _)
    rw [show x = N by omega]; exact this
  | succ m ih =>
    intro x ι hx h0 h3 a b h
    have b1 := b x h0 (by omega)
    refine e_M_pack_31 (bif_f (by omega) ⟨by omega, by omega, by omega, ?_⟩)
    rw [b1.1, by_id b1.2]
    have F0 : Fr (fun t _ _ => t = 74) ι (up ι 74 0 x (T x)) := (Fr.refl _ _).u rfl
    refine ih (x + 1) _ (by omega) (by omega) (by simp (disch := omega) only [up_s, up_k, up_j, up_i]; exact h3) (fun k y z => ?_) (fun k y z => by simp (disch := omega) only [up_s, up_k, up_j, up_i]; exact b k y z) (fun ι' y z => h ι' y (F0.trans z))
    rw [up_at]
    by_cases q : k = x
    · rw [if_pos q, q]
    · rw [if_neg q]; exact a k y (by omega)
abbrev gPk (t : Nat) (_ j : Int) : Prop := t = 67 ∨ 70 ≤ t ∧ t ≤ 74 ∨ 90 ≤ t ∧ t ≤ 107 ∨ t = 13 ∧ (j = 0 ∨ j = 3 ∨ j = 4 ∨ j = 6 ∨ j = 10 ∨ j = 43 ∨ j = 50 ∨ j = 59 ∨ j = 63)
theorem m_packAll {K : Int → bm_S → Prop} {x1 d : Int} {nc : Nat} {A A0 : Int → Int → Int} {rg' : Int → Int} (hx : 0 ≤ x1 ∧ x1 ≤ 2) (hN : 0 ≤ N ∧ N ≤ 2000) (hc69 : ∀ n, 4 ≤ n → n ≤ 10 → 0 ≤ ι 69 0 n ∧ ι 69 0 n ≤ 32) (hd : d = dg (ι 68 0) (ι 69 0)) (h3 : ι 13 0 3 = N) (h66 : ∀ k, 0 ≤ k → k < N → ι 66 0 k = T k ∧ -128 ≤ T k ∧ T k < 128) (hG : GV g c) (hG1 : GMo ι g c) (hf : f = mk x1 (cf T N) (wdM T N g c) N) (hwy : wyf = wy x1 (cf T N) (wdM T N g c) N) (hf4 : ∀ p, 0 ≤ p → p < N → wyf p ≠ 0 → 4 ≤ f p) (hnc : nc ≤ 501)
    (hL : 0 < N → 1 ≤ x1 → LSt f wyf N A nc 0 0)
    (hj : 0 < N → 1 ≤ x1 → ∀ (ι : bm_S) (K : bm_S → Prop) (H : Nat × Int → bm_S → Prop) (v3 v4 : bm_V), CmM ι 0 A0 rg0 → ι 13 0 59 = N → (∀ q, 0 ≤ q → q < N → WQ ι T N g c x1 q) → GMo ι g c → (∀ ι' : bm_S, CmM ι' nc A rg' → Fr gCm ι ι' → K ι') → bW sc 253 40 [br 13 0, bi 0, bi 0, v3, v4] [] ι (bk0 K H))
    (h0 : N = 0 → ∀ ι' : bm_S, MB ι' (pre d ++ bts 3 2 0) → ι' 13 0 63 = 0 → ι' 13 0 3 = 0 → ι' 13 0 4 = -1 → Fr gPk ι ι' → K (ι' 13 0 6) ι')
    (hr : 0 < N → x1 = 0 → ∀ ι' : bm_S, MB ι' (rawL d N T ++ bts 3 2 0) → ι' 13 0 63 = 0 → ι' 13 0 3 = 0 → ι' 13 0 4 = -1 → Fr gPk ι ι' → K (ι' 13 0 6) ι')
    (hc : 0 < N → 1 ≤ x1 → ∃ (ix : Nat) (B0 B1 B2 : List Int) (L0 L1 L2 : Int → Int), Cods f wyf T N A nc ix B0 B1 B2 L0 L1 L2 ∧ ∀ ι' : bm_S, MB ι' (codL d N T A nc B0 B1 B2 L0 L1 L2) → CmB ι' nc A → ι' 13 0 3 = 0 → ι' 13 0 4 = -1 → Fr gPk ι ι' → K (ι' 13 0 6) ι') : bC sc 259 [br 13 0, bi x1] ι (bk1 K H) := by
  have dr := dg_rg (ι 68 0) (ι 69 0)
  rw [← hd] at dr
  have F0 : Fr gPk ι (up ι 13 0 0 0) := (Fr.refl _ _).u (by omega)
  refine e_M_pack_0 (bif_f (by rw [if_pos hx]; omega) (bif_t (by omega) ?_))
  refine m_in31 (N := N) (T := T) (by omega) N.toNat 0 _ (by omega) (by omega) (by simp (disch := omega) only [up_s, up_k, up_j, up_i]; exact h3) (fun k x y => by omega) (fun k x y => by simp (disch := omega) only [up_s, up_k, up_j, up_i]; exact h66 k x y) (fun ι1 b1 F1 => ?_)
  have F01 : Fr gPk ι ι1 := F0.trans (F1.wide fun t i j y => by omega)
  have e3 : ι1 13 0 3 = N := by rw [F1 13 0 3 (by omega)]; simp (disch := omega) only [up_s, up_k, up_j, up_i]; exact h3
  refine e_M_pack_31 (bif_t (by omega) (m_emptyTape ?_))
  rw [e3]
  obtain ⟨ι2, h2⟩ : ∃ ι2, ι2 = up (up (up (up (up (up ι1 13 0 59 N) 13 0 3 0) 13 0 4 (-1)) 13 0 6 0) 13 0 43 0) 13 0 63 0 := ⟨_, rfl⟩
  rw [← h2]
  have F2 : Fr (fun t _ j => t = 13 ∧ (j = 3 ∨ j = 4 ∨ j = 6 ∨ j = 43 ∨ j = 59 ∨ j = 63)) ι1 ι2 := by rw [h2]; exact ((((((Fr.refl _ _).u (by omega)).u (by omega)).u (by omega)).u (by omega)).u (by omega)).u (by omega)
  have F02 : Fr gPk ι ι2 := F01.trans (F2.wide fun t i j y => by omega)
  have c59 : ι2 13 0 59 = N := by rw [h2]; simp (disch := omega) only [up_s, up_k, up_j, up_i]
  have c3 : ι2 13 0 3 = 0 := by rw [h2]; simp (disch := omega) only [up_s, up_k, up_j, up_i]
  have c4 : ι2 13 0 4 = -1 := by rw [h2]; simp (disch := omega) only [up_s, up_k, up_j, up_i]
  have c6 : ι2 13 0 6 = 0 := by rw [h2]; simp (disch := omega) only [up_s, up_k, up_j, up_i]
  have c43 : ι2 13 0 43 = 0 := by rw [h2]; simp (disch := omega) only [up_s, up_k, up_j, up_i]
  have c63 : ι2 13 0 63 = 0 := by rw [h2]; simp (disch := omega) only [up_s, up_k, up_j, up_i]
  have T2 : TMo ι2 T N := ⟨c59, fun k x y => by rw [F2 74 0 k (by omega)]; exact b1 k x y⟩
  have ed : dg (ι2 68 0) (ι2 69 0) = d := by
    rw [hd, show ι2 68 0 = ι 68 0 from funext fun j => F02 68 0 j (by omega), show ι2 69 0 = ι 69 0 from funext fun j => F02 69 0 j (by omega)]
  refine m_digestNow (fun n x y => by rw [F02 69 0 n (by omega)]; exact hc69 n x y) ?_
  rw [ed]
  have C2 : MB ι2 [] := by
    show WMo ι2 _ ((0 : Nat) : Int)
    exact ⟨by rw [c6]; rfl, by rw [c43]; rfl, fun k x y => by omega⟩
  refine m_pu (by omega) (by show ((0 : Nat) : Int) + 16 ≤ 32768; omega) C2 (fun ι3 C3 F3 => m_pu (by omega) (by rw [List.nil_append, bts_len]; omega) C3 (fun ι4 C4 F4 => ?_))
  have C4' : MB ι4 (pre d) := C4
  have pl := pre_len d
  have F24 : Fr gW ι2 ι4 := F3.trans F4
  have F04 : Fr gPk ι ι4 := F02.trans (F24.wide fun t i j y => by omega)
  have T4 : TMo ι4 T N := TMo_fr T2 F24 ⟨by omega, fun j => by omega⟩
  have d3 : ι4 13 0 3 = 0 := by rw [F24 13 0 3 (by omega)]; exact c3
  have d4 : ι4 13 0 4 = -1 := by rw [F24 13 0 4 (by omega)]; exact c4
  have d63 : ι4 13 0 63 = 0 := by rw [F24 13 0 63 (by omega)]; exact c63
  refine bif_i (fun z => ?_) (fun z => ?_)
  · by_cases y : N = 0
    · refine e_M_packRaw_0 (bif_t (by rw [T4.1]; omega) (m_pu (by omega) (by omega) C4' (fun ι5 C5 F5 => h0 y ι5 C5 (by rw [F5 13 0 63 (by omega)]; exact d63) (by rw [F5 13 0 3 (by omega)]; exact d3) (by rw [F5 13 0 4 (by omega)]; exact d4) (F04.trans (F5.wide fun t i j y => by omega)))))
    · exact m_raw (by omega) pl T4 C4' (fun ι5 C5 F5 => hr (by omega) z ι5 C5 (by rw [F5 13 0 63 (by omega)]; exact d63) (by rw [F5 13 0 3 (by omega)]; exact d3) (by rw [F5 13 0 4 (by omega)]; exact d4) (F04.trans (F5.wide fun t i j y => by omega)))
  · by_cases y : N = 0
    · refine e_M_packCoded_0 (bif_t (by rw [T4.1]; omega) (m_pu (by omega) (by omega) C4' (fun ι5 C5 F5 => h0 y ι5 C5 (by rw [F5 13 0 63 (by omega)]; exact d63) (by rw [F5 13 0 3 (by omega)]; exact d3) (by rw [F5 13 0 4 (by omega)]; exact d4) (F04.trans (F5.wide fun t i j y => by omega)))))
    · have hmk : ∀ p, 0 ≤ p → p < N → 1 ≤ f p ∧ p + f p ≤ N := by rw [hf]; exact mk_ab hN.2
      have hLS := hL (by omega) (by omega)
      obtain ⟨ix, B0, B1, B2, L0, L1, L2, hC, hc⟩ := hc (by omega) (by omega)
      have cl := codL_len (d := d) hN hmk hf4 hLS hC
      have cl2 := cl.2
      unfold codL at cl2
      rw [app_len] at cl2
      obtain ⟨hx0, t0, t1, t2⟩ := hC
      have G4 : GMo ι4 g c := ⟨fun k x y => by rw [F04 68 0 k (by omega)]; exact hG1.1 k x y, fun k x y => by rw [F04 69 0 k (by omega)]; exact hG1.2 k x y⟩
      refine e_M_packCoded_0 (bif_f (by rw [T4.1]; omega) (m_findWays (by omega) hN hG T4 G4 (fun ι5 Q5 F5 => ?_)))
      have C5 : MB ι5 (pre d) := C4'.fr F5 (fun j => by omega)
      refine e_M_findCommands_0 ⟨by omega, by omega, by omega, by omega, ?_⟩
      obtain ⟨ι6, h6⟩ : ∃ ι6, ι6 = up (up (up (up (up ι5 13 0 63 0) 107 0 0 16) 107 0 1 15) 107 0 2 11) 107 0 3 4 := ⟨_, rfl⟩
      rw [← h6]
      have F6 : Fr (fun t _ j => t = 107 ∨ t = 13 ∧ j = 63) ι5 ι6 := by rw [h6]; exact (((((Fr.refl _ _).u (by omega)).u (by omega)).u (by omega)).u (by omega)).u (by omega)
      have r6 : ∀ i, 0 ≤ i → i < 4 → ι6 107 0 (3 - i) = rg0 i := fun i x y => by
        have : i = 0 ∨ i = 1 ∨ i = 2 ∨ i = 3 := by omega
        rw [h6]
        rcases this with rfl | rfl | rfl | rfl
        · rw [show (3 - 0 : Int) = 3 by omega]; simp (disch := omega) only [up_s, up_k, up_j, up_i]; rfl
        · rw [show (3 - 1 : Int) = 2 by omega]; simp (disch := omega) only [up_s, up_k, up_j, up_i]; rfl
        · rw [show (3 - 2 : Int) = 1 by omega]; simp (disch := omega) only [up_s, up_k, up_j, up_i]; rfl
        · rw [show (3 - 3 : Int) = 0 by omega]; simp (disch := omega) only [up_s, up_k, up_j, up_i]; rfl
      have c63' : ι6 13 0 63 = 0 := by rw [h6]; simp (disch := omega) only [up_s, up_k, up_j, up_i]
      have T6 : TMo ι6 T N := TMo_fr (TMo_fr T4 F5 ⟨by omega, fun j => by omega⟩) F6 ⟨by omega, fun j => by omega⟩
      have Q6 : ∀ q, 0 ≤ q → q < N → WQ ι6 T N g c x1 q := fun q x y => (Q5 q x y).fr F6 (fun t _ _ => by omega)
      have G6 : GMo ι6 g c := ⟨fun k x y => by rw [F6 68 0 k (by omega), F5 68 0 k (by omega)]; exact G4.1 k x y, fun k x y => by rw [F6 69 0 k (by omega), F5 69 0 k (by omega)]; exact G4.2 k x y⟩
      refine hj (by omega) (by omega) ι6 _ _ _ _ ⟨c63', fun k x y => by omega, r6⟩ T6.1 Q6 G6 (fun ι7 q7 F7 => ?_)
      have C7 : MB ι7 (pre d) := (C5.fr F6 (fun j => by omega)).fr F7 (fun j => by omega)
      have T7 : TMo ι7 T N := TMo_fr T6 F7 ⟨by omega, fun j => by omega⟩
      have Q7 : ∀ q, 0 ≤ q → q < N → WQ ι7 T N g c x1 q := fun q x y => (Q6 q x y).fr F7 (fun t _ _ => by omega)
      have A7 : CmB ι7 nc A := ⟨q7.1, q7.2.1⟩
      have F07 : Fr gPk ι4 ι7 := ((F5.wide fun t i j y => by omega).trans (F6.wide fun t i j y => by omega)).trans (F7.wide fun t i j y => by omega)
      refine m_pu (by omega) (by omega) C7 (fun ι8 C8 F8 => m_pu (by omega) (by rw [app_len, bts_len]; omega) C8 (fun ι9 C9 F9 => m_pu (by omega) (by rw [app_len, app_len, bts_len, bts_len]; omega) C9 (fun ιa Ca Fa => ?_)))
      have Ca' : MB ιa (pre d ++ bts 1 4 0) := by rw [List.append_assoc, List.append_assoc] at Ca; exact Ca
      have F8a : Fr gW ι7 ιa := (F8.trans F9).trans Fa
      have ea : ιa 13 0 59 = N := by rw [F8a 13 0 59 (by omega)]; exact T7.1
      rw [ea]
      refine ⟨by omega, m_pu (by omega) (by rw [app_len, bts_len]; omega) Ca' (fun ιb Cb Fb => m_pu (by omega) (by rw [app_len, app_len, bts_len, bts_len]; omega) Cb (fun ιc Cc Fc => m_pu (by omega) (by rw [app_len, app_len, app_len, bts_len, bts_len, bts_len]; omega) Cc (fun ιd Cd Fd => m_pu (by omega) (by rw [app_len, app_len, app_len, app_len, bts_len, bts_len, bts_len, bts_len]; omega) Cd (fun ιe Ce Fe => m_pu (by omega) (by simp only [app_len, bts_len]; omega) Ce (fun ιf Cf Ff => m_pu (by omega) (by simp only [app_len, bts_len]; omega) Cf (fun ιg Cg Fg => ?_))))))⟩
      have Fag : Fr gW ι7 ιg := F8a.trans (((Fb.trans Fc).trans (Fd.trans Fe)).trans (Ff.trans Fg))
      have Cg' : MB ιg ((pre d ++ bts 1 4 0) ++ (bts (N - 1) 16 0 ++ bts 0 13 0)) := by
        simp only [List.append_assoc] at Cg ⊢
        exact Cg
      have lg : (((pre d ++ bts 1 4 0) ++ (bts (N - 1) 16 0 ++ bts 0 13 0)).length : Int) = 50 := by rw [app_len, app_len, app_len, pl, bts_len, bts_len, bts_len]; rfl
      refine m_codes (g := g) (c := c) (lv := x1) (by omega) hf hwy hf4 hnc hLS (A7.fr Fag ⟨by omega, fun t j _ _ => by omega⟩) (TMo_fr T7 Fag ⟨by omega, fun j => by omega⟩) (fun q x y => (Q7 q x y).fr Fag (fun t _ _ => by omega)) hx0 t0 t1 t2 Cg' (by omega) (fun ιh Ch S0 S1 S2 Fh => ?_)
      have Ch' : MB ιh (pre d ++ hdB N B0 B1 B2) := by
        unfold hdB
        simp only [List.append_assoc] at Ch ⊢
        exact Ch
      have Ah := (A7.fr Fag ⟨by omega, fun t j _ _ => by omega⟩).fr Fh ⟨by omega, fun t j _ _ => by omega⟩
      refine e_M_writeCommands_0 (m_cm4 (T := T) (g := g) (c := c) (lv := x1) hN hf hwy hf4 hnc (Tld_rg t0) (Tld_rg t1) (Tld_rg t2) nc 0 0 _ ιh _ _ _ _ _ hLS (by omega) ⟨Ah, TMo_fr (TMo_fr T7 Fag ⟨by omega, fun j => by omega⟩) Fh ⟨by omega, fun j => by omega⟩, fun q x y => ((Q7 q x y).fr Fag (fun t _ _ => by omega)).fr Fh (fun t _ _ => by omega), S0, S1, S2⟩ Ch' cl2 (fun ιi Ci Fi => ?_))
      have F7i : Fr gPk ι4 ιi := ((F07.trans (Fag.wide fun t i j y => by omega)).trans (Fh.wide fun t i j y => by omega)).trans (Fi.wide fun t i j y => by omega)
      have n3 : ∀ j, j = 3 ∨ j = 4 → ιi 13 0 j = ι4 13 0 j := fun j q => by
        rw [Fi 13 0 j (by omega), Fh 13 0 j (by omega), Fag 13 0 j (by omega), F7 13 0 j (by omega), F6 13 0 j (by omega), F5 13 0 j (by omega)]
      exact hc ιi Ci (Ah.fr Fi ⟨by omega, fun t j _ _ => by omega⟩) (by rw [n3 3 (by omega)]; exact d3) (by rw [n3 4 (by omega)]; exact d4) (F04.trans F7i)
end Pack
