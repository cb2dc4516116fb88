/-! pack: bits that are written -/
section Write
variable {sc : bm_Sc}
theorem us_nn {x k : Int} (hx : 0 ≤ x ∧ x < 2147483648) (hk : 0 ≤ k ∧ k < 32) : bm_ushr x k = x / bm_p2 k := by
  have e1 : ∀ z : Int, 0 ≤ z ∧ z < 2147483648 → (Int32.ofInt z).toUInt32.toNat = z.toNat := fun z hz => by
    show (BitVec.ofInt 32 z).toNat = _
    rw [BitVec.toNat_ofInt, Int.emod_eq_of_lt hz.1 (by omega)]
  have e2 : ((Int32.ofInt k).toUInt32 &&& Int32.toUInt32 31).toNat = k.toNat := by
    rw [UInt32.toNat_and, e1 k (by omega)]
    have : (Int32.toUInt32 31).toNat = 2 ^ 5 - 1 := by decide
    rw [this, Nat.and_two_pow_sub_one_eq_mod]
    omega
  have e3 : ((Int32.ofInt x).toUInt32 >>> ((Int32.ofInt k).toUInt32 &&& Int32.toUInt32 31)).toNat = x.toNat / 2 ^ k.toNat := by
    rw [UInt32.toNat_shiftRight, e1 x hx, e2, Nat.shiftRight_eq_div_pow, Nat.mod_eq_of_lt (by omega)]
  have e4 : ∀ z : UInt32, z.toNat < 2147483648 → z.toInt32.toInt = z.toNat := fun z hz => by
    rw [← Int32.toInt_toBitVec, UInt32.toBitVec_toInt32, BitVec.toInt_eq_toNat_cond, if_pos (by show 2 * z.toNat < 2 ^ 32; omega)]
    rfl
  have e5 : x.toNat / 2 ^ k.toNat ≤ x.toNat := Nat.div_le_self _ _
  unfold bm_ushr
  rw [e4 _ (by rw [e3]; omega), e3]
  unfold bm_p2
  rw [Int.natCast_ediv, show ((x.toNat : Nat) : Int) = x by omega]
/-- bits written one after the other -/
def ap : List Int → (Int → Int) → Int → (Int → Int)
  | [], f, _ => f
  | b :: l, f, p => ap l (wb f p b) (p + 1)
/-- the n bits of v from the k-th on, the lowest first -/
def bts (v : Int) : Nat → Int → List Int
  | 0, _ => []
  | n + 1, k => v / bm_p2 k % 2 :: bts v n (k + 1)
theorem bts_len (v : Int) : ∀ (n : Nat) (k : Int), (bts v n k).length = n
  | 0, _ => rfl
  | n + 1, k => by show (bts v n (k + 1)).length + 1 = n + 1; rw [bts_len v n (k + 1)]
theorem ap_app : ∀ (l m : List Int) (f : Int → Int) (p : Int), ap (l ++ m) f p = ap m (ap l f p) (p + l.length)
  | [], m, f, p => by show ap m f p = ap m f (p + ((0 : Nat) : Int)); rw [show p + ((0 : Nat) : Int) = p by omega]
  | b :: l, m, f, p => by
    show ap (l ++ m) (wb f p b) (p + 1) = ap m (ap l (wb f p b) (p + 1)) (p + ((l.length + 1 : Nat) : Int))
    rw [ap_app l m, show p + 1 + (l.length : Int) = p + ((l.length + 1 : Nat) : Int) by omega]
theorem wbs_ap {v : Int} (hv : 0 ≤ v ∧ v < 2147483648) : ∀ (n : Nat) (k : Int) (f : Int → Int) (p : Int), 0 ≤ k → k + n ≤ 32 → wbs (fun k => bm_ushr v k % 2) n k f p = ap (bts v n k) f p
  | 0, _, _, _, _, _ => rfl
  | n + 1, k, f, p, h0, h1 => by
    show wbs (fun k => bm_ushr v k % 2) n (k + 1) (wb f p (bm_ushr v k % 2)) (p + 1) = ap (bts v n (k + 1)) (wb f p (v / bm_p2 k % 2)) (p + 1)
    rw [us_nn hv (by omega), wbs_ap hv n (k + 1) _ _ (by omega) (by omega)]
theorem ap_rg : ∀ (l : List Int) (f : Int → Int) (p : Int), 0 ≤ p → (∀ k, 0 ≤ k → k < (p + 7) / 8 → -128 ≤ f k ∧ f k < 128) → ∀ k, 0 ≤ k → k < (p + l.length + 7) / 8 → -128 ≤ ap l f p k ∧ ap l f p k < 128
  | [], f, p, h0, h, k, x, y => h k x (by show k < (p + 7) / 8; have : p + (([] : List Int).length : Int) = p := by show p + ((0 : Nat) : Int) = p; omega
                                          rw [this] at y; exact y)
  | b :: l, f, p, h0, h, k, x, y => ap_rg l (wb f p b) (p + 1) (by omega) (wb_rg h0 h) k x (by
      have : p + ((b :: l).length : Int) = p + 1 + (l.length : Int) := by show p + ((l.length + 1 : Nat) : Int) = _; omega
      rw [this] at y; exact y)
/-- what is written: comp's row, and the other's -/
def WCo (ι : bm_S) (F : Int → Int) (nb : Int) : Prop := By ι 1 ((nb + 7) / 8) nb F
def WMo (ι : bm_S) (F : Int → Int) (nb : Int) : Prop := ι 13 0 6 = (nb + 7) / 8 ∧ ι 13 0 43 = nb ∧ ∀ k, 0 ≤ k → k < (nb + 7) / 8 → ι 67 0 k = F k
abbrev fW (t : Nat) (i _ : Int) : Prop := (t = 2 ∨ t = 20) ∧ i = 1
abbrev gW (t : Nat) (_ j : Int) : Prop := t = 67 ∨ t = 13 ∧ (j = 6 ∨ j = 43)
variable {ι : bm_S} {K : bm_S → Prop} {H : Nat × Int → bm_S → Prop} {F : Int → Int} {nb : Int}
theorem s_wr {v n : Int} (hv : 0 ≤ v ∧ v < 2147483648) (hn : 0 ≤ n ∧ n ≤ 32) (hb : 0 ≤ nb ∧ nb + n ≤ 32768) (hW : WCo ι F nb) (h : ∀ ι' : bm_S, WCo ι' (ap (bts v n.toNat 0) F nb) (nb + n) → Fr fW ι ι' → K ι') : bC sc 19 [br 2 1, bi v, bi n] ι (bk0 K H) := by
  refine s_addBits (f := F) (b := nb) (Or.inr rfl) hn (by rw [L20_1]; omega) hW (fun ι' hB hF => h ι' ?_ hF.fr)
  rw [wbs_ap hv n.toNat 0 F nb (by omega) (by omega)] at hB
  exact hB
theorem wb_by {f : Int → Int} {p b : Int} {s : Int} : wb f p b s = if s = p / 8 then bm_byte (bm_or (if p % 8 = 0 then 0 else f (p / 8)) (b * bm_p2 (p % 8))) else f s := rfl
theorem m_wr2 {v n : Int} (hn : n ≤ 32) : ∀ (m : Nat) (k : Int) (F : Int → Int) (nb : Int) (ι : bm_S), k = n - m → 0 ≤ k → 0 ≤ nb → nb + m ≤ 32768 → WMo ι F nb → (∀ j, 0 ≤ j → j < (nb + 7) / 8 → -128 ≤ F j ∧ F j < 128) → (∀ ι' : bm_S, WMo ι' (ap (bts v m k) F nb) (nb + m) → Fr gW ι ι' → K ι') → bW sc 234 2 [br 13 0, bi v, bi n, bi k] [] ι (bk0 K H)
  | 0, k, F, nb, ι, hk, h0, hb, hb1, hW, hF, h => e_M_write_2 (bif_t (by omega) (h ι (by rw [show nb + ((0 : Nat) : Int) = nb by omega]; exact hW) (Fr.refl _ _)))
  | m + 1, k, F, nb, ι, hk, h0, hb, hb1, hW, hF, h => by
    obtain ⟨e6, e43, e67⟩ := hW
    have h8 := p2_8 (p := nb)
    have bit : v / bm_p2 k % 2 = 0 ∨ v / bm_p2 k % 2 = 1 := by omega
    have next : ∀ ι1 : bm_S, ι1 13 0 6 = (nb + 1 + 7) / 8 → ι1 13 0 43 = nb + 1 → (∀ j, 0 ≤ j → j < (nb + 1 + 7) / 8 → ι1 67 0 j = wb F nb (v / bm_p2 k % 2) j) → Fr gW ι ι1 → bW sc 234 2 [br 13 0, bi v, bi n, bi (k + 1)] [] ι1 (bk0 K H) := fun ι1 a1 a2 a3 F1 => by
      refine m_wr2 hn m (k + 1) _ (nb + 1) ι1 (by omega) (by omega) (by omega) (by omega) ⟨a1, a2, a3⟩ (wb_rg hb hF) (fun ι2 z F2 => h ι2 ?_ (F1.trans F2))
      rw [show nb + 1 + (m : Int) = nb + ((m + 1 : Nat) : Int) by omega] at z
      exact z
    refine e_M_write_2 (bif_f (by omega) ?_)
    rw [e43, e6]
    refine ⟨by omega, bif_i (fun c => ⟨by omega, by omega, by omega, bif_i (fun c1 => ⟨by omega, by omega, by omega, by omega, ⟨by omega, by omega⟩, by omega, by omega, by omega, ?_⟩) (fun c1 => ⟨by omega, by omega, ?_⟩)⟩) (fun c => ⟨by omega, bif_i (fun c1 => ⟨by omega, by omega, by omega, by omega, ⟨by omega, by omega⟩, by omega, by omega, by omega, ?_⟩) (fun c1 => ⟨by omega, by omega, ?_⟩)⟩)⟩
    · refine next _ (by simp (disch := omega) only [up_s, up_k, up_j, up_i]; omega) (by simp (disch := omega) only [up_s, up_k, up_j, up_i]) (fun j x y => ?_) ((((((Fr.refl _ _).u (by omega)).u (by omega)).u (by omega)).u (by omega)))
      rw [up_k (by decide), up_at, show (nb + 7) / 8 + 1 - 1 = (nb + 7) / 8 by omega, up_s, up_k (by decide), up_at, by_by, by_0, wb_by, c1, if_pos c]
      by_cases q : j = nb / 8
      · rw [if_pos (by omega), if_pos q]
      · rw [if_neg (by omega), if_neg (by omega), if_neg q]; exact e67 j x (by omega)
    · refine next _ (by simp (disch := omega) only [up_s, up_k, up_j, up_i]; omega) (by simp (disch := omega) only [up_s, up_k, up_j, up_i]) (fun j x y => ?_) (((((Fr.refl _ _).u (by omega)).u (by omega)).u (by omega)))
      have c0 : v / bm_p2 k % 2 = 0 := by omega
      rw [up_k (by decide), up_k (by decide), up_at, wb_by, c0, if_pos c]
      have z : bm_byte (bm_or 0 (0 * bm_p2 (nb % 8))) = 0 := by rw [show 0 * bm_p2 (nb % 8) = 0 by omega]; decide
      by_cases q : j = nb / 8
      · rw [if_pos (by omega), if_pos q, z, by_0]
      · rw [if_neg (by omega), if_neg q]; exact e67 j x (by omega)
    · refine next _ (by simp (disch := omega) only [up_s, up_k, up_j, up_i]; omega) (by simp (disch := omega) only [up_s, up_k, up_j, up_i]) (fun j x y => ?_) ((((Fr.refl _ _).u (by omega)).u (by omega)))
      rw [up_k (by decide), up_at, by_by, wb_by, c1, if_neg c, e67 ((nb + 7) / 8 - 1) (by omega) (by omega), show (nb + 7) / 8 - 1 = nb / 8 by omega]
      by_cases q : j = nb / 8
      · rw [if_pos q, if_pos q]
      · rw [if_neg q, if_neg q]; exact e67 j x (by omega)
    · refine next _ (by simp (disch := omega) only [up_s, up_k, up_j, up_i]; omega) (by simp (disch := omega) only [up_s, up_k, up_j, up_i]) (fun j x y => ?_) ((Fr.refl _ _).u (by omega))
      have c0 : v / bm_p2 k % 2 = 0 := by omega
      rw [up_k (by decide), wb_by, c0, if_neg c]
      by_cases q : j = nb / 8
      · rw [if_pos q, show 0 * bm_p2 (nb % 8) = 0 by omega, by_or_0, q, by_id (hF (nb / 8) (by omega) (by omega))]; exact e67 (nb / 8) (by omega) (by omega)
      · rw [if_neg q]; exact e67 j x (by omega)
theorem m_wr {v n : Int} (hn : 0 ≤ n ∧ n ≤ 32) (hb : 0 ≤ nb ∧ nb + n ≤ 32768) (hW : WMo ι F nb) (hF : ∀ j, 0 ≤ j → j < (nb + 7) / 8 → -128 ≤ F j ∧ F j < 128) (h : ∀ ι' : bm_S, WMo ι' (ap (bts v n.toNat 0) F nb) (nb + n) → Fr gW ι ι' → K ι') : bC sc 234 [br 13 0, bi v, bi n] ι (bk0 K H) := e_M_write_0 (m_wr2 hn.2 n.toNat 0 F nb ι (by omega) (by omega) hb.1 (by omega) hW hF (fun ι' z F1 => h ι' (by rw [show nb + (n.toNat : Int) = nb + n by omega] at z; exact z) F1))
end Write
