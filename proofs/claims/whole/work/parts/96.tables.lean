/-! tables of lengths; contexts -/
section Tables
variable {sc : bm_Sc}
def ib (k : Int) : Int := bt_207.getD k.toNat 0
def ia (k : Int) : Int := bt_200.getD k.toNat 0
def yb (k : Int) : Int := bt_208.getD k.toNat 0
def ya (k : Int) : Int := bt_201.getD k.toNat 0
def i8 (k : Int) : Int := bt_202.getD k.toNat 0
def y8 (k : Int) : Int := bt_203.getD k.toNat 0
theorem X207 {k : Int} : bm_X sc 207 k = ib k := rfl
theorem X200 {k : Int} : bm_X sc 200 k = ia k := rfl
theorem X208 {k : Int} : bm_X sc 208 k = yb k := rfl
theorem X201 {k : Int} : bm_X sc 201 k = ya k := rfl
theorem X202 {k : Int} : bm_X sc 202 k = i8 k := rfl
theorem X203 {k : Int} : bm_X sc 203 k = y8 k := rfl
theorem ib_v : ((List.range 24).all fun k => decide (0 ≤ ib (k : Int)) && decide (ib (k : Int) ≤ 24) && decide (0 ≤ ia (k : Int)) && decide (ia (k : Int) ≤ 22594) && decide (0 ≤ yb (k : Int)) && decide (yb (k : Int) ≤ 24) && decide (2 ≤ ya (k : Int)) && decide (ya (k : Int) ≤ 2118) && (decide (k = 23) || decide (ia ((k : Int) + 1) = ia (k : Int) + 1 * bm_p2 (ib (k : Int))) && decide (ya ((k : Int) + 1) = ya (k : Int) + 1 * bm_p2 (yb (k : Int))))
  && decide (ib (k : Int) = if (6 : Int) ≤ k then (if (16 : Int) ≤ k then (if (21 : Int) ≤ k then (if (k : Int) = 21 then 12 else if (k : Int) = 22 then 14 else 24) else (k : Int) - 10) else (k : Int) / 2 - 2) else 0)
  && decide (yb (k : Int) = if (8 : Int) ≤ k then (if (18 : Int) ≤ k then (if (23 : Int) ≤ k then 24 else (k : Int) - 12) else (k : Int) / 2 - 3) else 0)) = true := by decide +kernel
theorem ib_rg {k : Int} (hk : 0 ≤ k ∧ k < 24) : ((0 ≤ ib k ∧ ib k ≤ 24) ∧ (0 ≤ ia k ∧ ia k ≤ 22594) ∧ (0 ≤ yb k ∧ yb k ≤ 24) ∧ (2 ≤ ya k ∧ ya k ≤ 2118)) ∧ (k < 23 → ia (k + 1) = ia k + 1 * bm_p2 (ib k) ∧ ya (k + 1) = ya k + 1 * bm_p2 (yb k)) ∧
    (ib k = if (6 : Int) ≤ k then (if (16 : Int) ≤ k then (if (21 : Int) ≤ k then (if k = 21 then 12 else if k = 22 then 14 else 24) else k - 10) else k / 2 - 2) else 0) ∧
    (yb k = if (8 : Int) ≤ k then (if (18 : Int) ≤ k then (if (23 : Int) ≤ k then 24 else k - 12) else k / 2 - 3) else 0) := by
  have h1 := List.all_eq_true.mp ib_v k.toNat (List.mem_range.mpr (by omega))
  rw [show ((k.toNat : Nat) : Int) = k by omega] at h1
  simp only [Bool.and_eq_true, Bool.or_eq_true, decide_eq_true_eq] at h1
  obtain ⟨⟨⟨⟨⟨⟨⟨⟨⟨⟨a1, a2⟩, a3⟩, a4⟩, a5⟩, a6⟩, a7⟩, a8⟩, a9⟩, a10⟩, a11⟩ := h1
  exact ⟨⟨⟨a1, a2⟩, ⟨a3, a4⟩, ⟨a5, a6⟩, a7, a8⟩, fun h => a9.resolve_left (by omega), a10, a11⟩
theorem i8_v : ((List.range 11).all fun k => decide (i8 (k : Int) = if (4 : Int) ≤ k then (if (6 : Int) ≤ k then (if (k : Int) = 6 then 0 else if (k : Int) = 7 then 2 else if (k : Int) = 8 then 1 else 2) else 1) else 0) && decide (y8 (k : Int) = if (k : Int) = 0 then 0 else if (k : Int) = 2 then 0 else if (k : Int) = 4 then 0 else if (k : Int) = 7 then 0 else if (k : Int) = 1 then 1 else if (k : Int) = 3 then 1 else if (k : Int) = 5 then 1 else if (k : Int) = 9 then 1 else 2)) = true := by decide +kernel
theorem i8_rg {k : Int} (hk : 0 ≤ k ∧ k < 11) : (i8 k = if (4 : Int) ≤ k then (if (6 : Int) ≤ k then (if k = 6 then 0 else if k = 7 then 2 else if k = 8 then 1 else 2) else 1) else 0) ∧ (y8 k = if k = 0 then 0 else if k = 2 then 0 else if k = 4 then 0 else if k = 7 then 0 else if k = 1 then 1 else if k = 3 then 1 else if k = 5 then 1 else if k = 9 then 1 else 2) := by
  have h1 := List.all_eq_true.mp i8_v k.toNat (List.mem_range.mpr (by omega))
  rw [show ((k.toNat : Nat) : Int) = k by omega] at h1
  simp only [Bool.and_eq_true, decide_eq_true_eq] at h1
  exact h1
theorem i8_b {k : Int} (hk : 0 ≤ k ∧ k < 11) : (0 ≤ i8 k ∧ i8 k ≤ 2) ∧ 0 ≤ y8 k ∧ y8 k ≤ 2 := by
  obtain ⟨a, b⟩ := i8_rg hk
  grind (splits := 30)
theorem K_of {K : Int → bm_S → Prop} {a b : Int} {ι : bm_S} (h : K a ι) (e : a = b) : K b ι := e ▸ h
variable {ι : bm_S} {K : Int → bm_S → Prop} {H : Nat × Int → bm_S → Prop}
theorem m_insertBits {k : Int} (hk : 0 ≤ k ∧ k < 24) (h : K (ib k) ι) : bC sc 200 [bi k] ι (bk1 K H) := by
  have e := (ib_rg hk).2.2.1
  refine e_M_insertBits_0 (bif_i (fun q1 => (bif_i (fun q2 => (bif_i (fun q3 => (bif_i (fun q4 => ?_) (fun q4 => (bif_i (fun q5 => ?_) (fun q5 => ?_))))) (fun q3 => ⟨by omega, ?_⟩))) (fun q2 => ⟨by omega, ⟨by omega, ?_⟩⟩))) (fun q1 => ?_))
  all_goals exact K_of h (by grind)
theorem m_copyBits {k : Int} (hk : 0 ≤ k ∧ k < 24) (h : K (yb k) ι) : bC sc 201 [bi k] ι (bk1 K H) := by
  have e := (ib_rg hk).2.2.2
  refine e_M_copyBits_0 (bif_i (fun q1 => (bif_i (fun q2 => (bif_i (fun q3 => ?_) (fun q3 => ⟨by omega, ?_⟩))) (fun q2 => ⟨by omega, ⟨by omega, ?_⟩⟩))) (fun q1 => ?_))
  all_goals exact K_of h (by grind)
theorem m_insertEight {k : Int} (hk : 0 ≤ k ∧ k < 11) (h : K (i8 k) ι) : bC sc 204 [bi k] ι (bk1 K H) := by
  have e := (i8_rg hk).1
  refine e_M_insertEight_0 (bif_i (fun q1 => (bif_i (fun q2 => (bif_i (fun q3 => ?_) (fun q3 => (bif_i (fun q4 => ?_) (fun q4 => (bif_i (fun q5 => ?_) (fun q5 => ?_))))))) (fun q2 => ?_))) (fun q1 => ?_))
  all_goals exact K_of h (by grind)
theorem m_copyEight {k : Int} (hk : 0 ≤ k ∧ k < 11) (h : K (y8 k) ι) : bC sc 205 [bi k] ι (bk1 K H) := by
  have e := (i8_rg hk).2
  refine e_M_copyEight_0 (bif_i (fun q1 => ?_) (fun q1 => (bif_i (fun q2 => ?_) (fun q2 => (bif_i (fun q3 => ?_) (fun q3 => (bif_i (fun q4 => ?_) (fun q4 => (bif_i (fun q5 => ?_) (fun q5 => (bif_i (fun q6 => ?_) (fun q6 => (bif_i (fun q7 => ?_) (fun q7 => (bif_i (fun q8 => ?_) (fun q8 => ?_))))))))))))))))
  all_goals exact K_of h (by grind)
theorem m_insertBase4 {k : Int} (hk : k < 24) (h : K (ia k) ι) : ∀ (m : Nat) (x : Int), x = k - m → 0 ≤ x → bW sc 202 4 [bi k, bi (ia x), bi x] [] ι (bk1 K H)
  | 0, x, e, h0 => e_M_insertBase_4 (bif_t (by omega) (by rw [show x = k by omega]; exact h))
  | m + 1, x, e, h0 => by
    have b := ib_rg (k := x) (by omega)
    have hp := p2_le 24 b.1.1.2 16777216 rfl
    refine e_M_insertBase_4 (bif_f (by omega) (m_insertBits (by omega) ⟨by omega, by omega, by omega, ?_⟩))
    rw [← (b.2.1 (by omega)).1]
    exact m_insertBase4 hk h m (x + 1) (by omega) (by omega)
theorem m_insertBase {k : Int} (hk : 0 ≤ k ∧ k < 24) (h : K (ia k) ι) : bC sc 202 [bi k] ι (bk1 K H) := e_M_insertBase_0 (m_insertBase4 hk.2 h k.toNat 0 (by omega) (by omega))
theorem m_copyBase4 {k : Int} (hk : k < 24) (h : K (ya k) ι) : ∀ (m : Nat) (x : Int), x = k - m → 0 ≤ x → bW sc 203 4 [bi k, bi (ya x), bi x] [] ι (bk1 K H)
  | 0, x, e, h0 => e_M_copyBase_4 (bif_t (by omega) (by rw [show x = k by omega]; exact h))
  | m + 1, x, e, h0 => by
    have b := ib_rg (k := x) (by omega)
    have hp := p2_le 24 b.1.2.2.1.2 16777216 rfl
    refine e_M_copyBase_4 (bif_f (by omega) (m_copyBits (by omega) ⟨by omega, by omega, by omega, ?_⟩))
    rw [← (b.2.1 (by omega)).2]
    exact m_copyBase4 hk h m (x + 1) (by omega) (by omega)
theorem m_copyBase {k : Int} (hk : 0 ≤ k ∧ k < 24) (h : K (ya k) ι) : bC sc 203 [bi k] ι (bk1 K H) := e_M_copyBase_0 (m_copyBase4 hk.2 h k.toNat 0 (by omega) (by omega))
/-! contexts -/
abbrev vw (x : Int) : Prop := x = 65 ∨ x = 69 ∨ x = 73 ∨ x = 79 ∨ x = 85
def sg1 (x : Int) : Int := if x = 32 then 8 else if x = 34 ∨ x = 39 then 16 else if x = 37 then 20 else if x = 40 ∨ x = 60 ∨ x = 91 ∨ x = 123 then 24 else if x = 41 ∨ x = 62 ∨ x = 93 ∨ x = 125 then 28 else if x = 44 ∨ x = 58 ∨ x = 59 then 32 else if x = 46 then 36 else if x = 61 then 40 else 12
def cx1 (x : Int) : Int := if x < 128 then (if x < 32 ∨ x = 127 then (if x = 9 ∨ x = 10 ∨ x = 13 then 4 else 0) else if 97 ≤ x ∧ x ≤ 122 then (if vw (x - 32) then 56 else 60) else if 65 ≤ x ∧ x ≤ 90 then (if vw x then 48 else 52) else if 48 ≤ x ∧ x ≤ 57 then 44 else sg1 x) else if 192 ≤ x then 2 + x % 2 else x % 2
def cx2 (x : Int) : Int := if x < 32 ∨ 127 ≤ x ∧ x < 192 then 0 else if 192 ≤ x ∨ 48 ≤ x ∧ x ≤ 57 ∨ 65 ≤ x ∧ x ≤ 90 then 2 else if 97 ≤ x ∧ x ≤ 122 then 3 else 1
def cxs (x : Int) : Int := if x = 0 then 0 else if x < 16 then 1 else if x < 64 then 2 else if x < 128 then 3 else if x < 192 then 4 else if x < 240 then 5 else if x < 255 then 6 else 7
theorem s_isVowel {x : Int} (h : K (if vw x then 1 else 0) ι) : bC sc 146 [bi x] ι (bk1 K H) := by
  refine e_X_isVowel_0 (bif_i (fun q1 => ⟨by omega, ?_⟩) (fun q1 => (bif_i (fun q2 => ⟨by omega, ?_⟩) (fun q2 => (bif_i (fun q3 => ⟨by omega, ?_⟩) (fun q3 => (bif_i (fun q4 => ⟨by omega, ?_⟩) (fun q4 => (bif_i (fun q5 => ⟨by omega, ?_⟩) (fun q5 => ⟨by omega, ?_⟩))))))))))
  all_goals exact K_of h (by grind)
theorem m_isVowel {x : Int} (h : K (if vw (x - 32) then 1 else 0) ι) : bC sc 206 [bi x] ι (bk1 K H) := by
  refine e_M_isVowel_0 (bif_i (fun q1 => ⟨by omega, ?_⟩) (fun q1 => (bif_i (fun q2 => ⟨by omega, ?_⟩) (fun q2 => (bif_i (fun q3 => ⟨by omega, ?_⟩) (fun q3 => (bif_i (fun q4 => ⟨by omega, ?_⟩) (fun q4 => (bif_i (fun q5 => ⟨by omega, ?_⟩) (fun q5 => ⟨by omega, ?_⟩))))))))))
  all_goals exact K_of h (by grind)
theorem m_isOneOf {x a b c d : Int} (h : K (if x = a ∨ x = b ∨ x = c ∨ x = d then 1 else 0) ι) : bC sc 207 [bi x, bi a, bi b, bi c, bi d] ι (bk1 K H) := by
  refine e_M_isOneOf_0 (bif_i (fun q1 => ⟨by omega, ?_⟩) (fun q1 => (bif_i (fun q2 => ⟨by omega, ?_⟩) (fun q2 => (bif_i (fun q3 => ⟨by omega, ?_⟩) (fun q3 => (bif_i (fun q4 => ⟨by omega, ?_⟩) (fun q4 => ⟨by omega, ?_⟩))))))))
  all_goals exact K_of h (by grind)
theorem s_firstOfSign {x : Int} (h : K (sg1 x) ι) : bC sc 147 [bi x] ι (bk1 K H) := by
  refine e_X_firstOfSign_0 (bif_i (fun q1 => ?_) (fun q1 => (bif_i (fun q2 => ?_) (fun q2 => (bif_i (fun q3 => ?_) (fun q3 => (bif_i (fun q4 => ?_) (fun q4 => (bif_i (fun q5 => ?_) (fun q5 => (bif_i (fun q6 => ?_) (fun q6 => (bif_i (fun q7 => ?_) (fun q7 => (bif_i (fun q8 => ?_) (fun q8 => (bif_i (fun q9 => ?_) (fun q9 => (bif_i (fun q10 => ?_) (fun q10 => (bif_i (fun q11 => ?_) (fun q11 => (bif_i (fun q12 => ?_) (fun q12 => (bif_i (fun q13 => ?_) (fun q13 => (bif_i (fun q14 => ?_) (fun q14 => (bif_i (fun q15 => ?_) (fun q15 => (bif_i (fun q16 => ?_) (fun q16 => (bif_i (fun q17 => ?_) (fun q17 => ?_))))))))))))))))))))))))))))))))))
  all_goals first
    | exact K_of h (by unfold sg1; grind)
    | exact e_X_firstOfSign_151 (K_of h (by unfold sg1; grind))
    | exact e_X_firstOfSign_157 (K_of h (by unfold sg1; grind))
    | exact e_X_firstOfSign_160 (K_of h (by unfold sg1; grind))
    | exact e_X_firstOfSign_163 (K_of h (by unfold sg1; grind))
theorem s_firstOf38 {x : Int} (hx : x < 32 ∨ x = 127) (h : K (cx1 x) ι) : bW sc 145 38 [bi x] [] ι (bk1 K H) := by
  refine e_X_firstOf_38 (bif_i (fun q1 => ?_) (fun q1 => (bif_i (fun q2 => ?_) (fun q2 => (bif_i (fun q3 => ?_) (fun q3 => ?_))))))
  · exact e_X_firstOf_56 (K_of h (by unfold cx1; grind))
  · exact e_X_firstOf_56 (K_of h (by unfold cx1; grind))
  · exact e_X_firstOf_56 (K_of h (by unfold cx1; grind))
  · exact K_of h (by unfold cx1; grind)
theorem s_firstOf92 {x : Int} (hx : 32 ≤ x ∧ x < 127) (hx2 : x < 97 ∨ 122 < x) (h : K (cx1 x) ι) : bW sc 145 92 [bi x] [] ι (bk1 K H) := by
  refine e_X_firstOf_92 (bif_i (fun q1 => (bif_i (fun q2 => ?_) (fun q2 => (bif_i (fun q3 => ?_) (fun q3 => ?_))))) (fun q1 => (bif_i (fun q2 => (bif_i (fun q3 => ?_) (fun q3 => (bif_i (fun q4 => ?_) (fun q4 => ?_))))) (fun q2 => ?_))))
  · exact s_firstOfSign (K_of h (by unfold cx1; grind))
  · exact s_firstOfSign (K_of h (by unfold cx1; grind))
  · exact K_of h (by unfold cx1; grind)
  · exact s_firstOfSign (K_of h (by unfold cx1; grind))
  · exact s_firstOfSign (K_of h (by unfold cx1; grind))
  · exact K_of h (by unfold cx1; grind)
  · refine s_isVowel (bif_i (fun e => K_of h ?_) (fun e => K_of h ?_))
    · unfold cx1; grind
    · unfold cx1; grind
theorem s_firstOf {x : Int} (hx : 0 ≤ x ∧ x < 256) (h : K (cx1 x) ι) : bC sc 145 [bi x] ι (bk1 K H) := by
  refine e_X_firstOf_0 (bif_i (fun q1 => (bif_i (fun q2 => ?_) (fun q2 => (bif_i (fun q3 => ?_) (fun q3 => (bif_i (fun q4 => ?_) (fun q4 => (bif_i (fun q5 => ?_) (fun q5 => ⟨by omega, ?_⟩))))))))) (fun q1 => (bif_i (fun q2 => ⟨by omega, ?_⟩) (fun q2 => ?_))))
  · exact s_firstOf38 (by omega) h
  · exact s_firstOf38 (by omega) h
  · exact s_firstOf92 (by omega) (by omega) h
  · exact s_firstOf92 (by omega) (by omega) h
  · refine s_isVowel (bif_i (fun e => K_of h ?_) (fun e => K_of h ?_))
    · unfold cx1; grind
    · unfold cx1; grind
  · exact K_of h (by unfold cx1; grind)
  · exact K_of h (by unfold cx1; grind)
theorem m_first38 {x : Int} (hx : x < 32 ∨ x = 127) (h : K (cx1 x) ι) : bW sc 208 38 [bi x] [] ι (bk1 K H) := by
  refine e_M_first_38 (bif_i (fun q1 => ?_) (fun q1 => (bif_i (fun q2 => ?_) (fun q2 => (bif_i (fun q3 => ?_) (fun q3 => ?_))))))
  · exact e_M_first_56 (K_of h (by unfold cx1; grind))
  · exact e_M_first_56 (K_of h (by unfold cx1; grind))
  · exact e_M_first_56 (K_of h (by unfold cx1; grind))
  · exact K_of h (by unfold cx1; grind)
theorem cx1_s {x : Int} (h1 : 32 ≤ x ∧ x < 127) (h2 : ¬ (48 ≤ x ∧ x ≤ 57)) (h3 : ¬ (65 ≤ x ∧ x ≤ 90)) (h4 : ¬ (97 ≤ x ∧ x ≤ 122)) : cx1 x = sg1 x := by
  unfold cx1
  rw [if_pos (by omega), if_neg (by omega), if_neg h4, if_neg h3, if_neg h2]
theorem m_first {x : Int} (hx : 0 ≤ x ∧ x < 256) (h : K (cx1 x) ι) : bC sc 208 [bi x] ι (bk1 K H) := by
  refine e_M_first_0 (bif_i (fun c1 => bif_i (fun c2 => m_first38 (by omega) h) (fun c2 => bif_i (fun c3 => m_first38 (by omega) h) (fun c3 => bif_i (fun c4 => bif_i (fun c5 => bif_i (fun c6 => ?_) (fun c6 => ?_)) (fun c5 => ?_)) (fun c4 => K_of h (by unfold cx1; grind))))) (fun c1 => bif_i (fun c2 => ⟨by omega, by omega, K_of h (by unfold cx1; grind)⟩) (fun c2 => ⟨by omega, K_of h (by unfold cx1; grind)⟩)))
  · have e : cx1 x = sg1 x := cx1_s (by omega) (by grind) (by grind) (by grind)
    rw [e] at h
    refine bif_i (fun d1 => K_of h (by unfold sg1; grind)) (fun d1 => bif_i (fun d2 => e_M_first_161 (K_of h (by unfold sg1; grind))) (fun d2 => bif_i (fun d3 => e_M_first_161 (K_of h (by unfold sg1; grind))) (fun d3 => bif_i (fun d4 => K_of h (by unfold sg1; grind)) (fun d4 => m_isOneOf (bif_i (fun d5 => m_isOneOf (bif_i (fun d6 => ?_) (fun d6 => K_of h (by unfold sg1; grind)))) (fun d5 => K_of h (by unfold sg1; grind)))))))
    refine bif_i (fun d7 => e_M_first_227 (K_of h (by unfold sg1; grind))) (fun d7 => bif_i (fun d8 => e_M_first_227 (K_of h (by unfold sg1; grind))) (fun d8 => bif_i (fun d9 => e_M_first_227 (K_of h (by unfold sg1; grind))) (fun d9 => bif_i (fun d10 => K_of h (by unfold sg1; grind)) (fun d10 => bif_i (fun d11 => K_of h (by unfold sg1; grind)) (fun d11 => K_of h (by unfold sg1; grind))))))
  · have c6 : 97 ≤ x ∧ x ≤ 122 := by grind
    refine m_isVowel (bif_i (fun d => K_of h ?_) (fun d => K_of h ?_))
    · unfold cx1; grind
    · unfold cx1; grind
  · have c5 : 65 ≤ x ∧ x ≤ 90 := by grind
    refine ⟨by omega, m_isVowel ?_⟩
    rw [show x + 32 - 32 = x by omega]
    refine bif_i (fun d => K_of h ?_) (fun d => K_of h ?_)
    · unfold cx1; grind
    · unfold cx1; grind
theorem s_secondOf {x : Int} (hx : 0 ≤ x ∧ x < 256) (h : K (cx2 x) ι) : bC sc 148 [bi x] ι (bk1 K H) := by
  have h40 : ∀ x : Int, 32 ≤ x → x < 127 → ¬ (48 ≤ x ∧ x ≤ 57) → K (cx2 x) ι → bW sc 148 40 [bi x] [] ι (bk1 K H) := fun x c1 c2 c3 h => by
    refine e_X_secondOf_40 (bif_i (fun q1 => (bif_i (fun q2 => ?_) (fun q2 => (bif_i (fun q3 => ?_) (fun q3 => ?_))))) (fun q1 => (bif_i (fun q2 => (bif_i (fun q3 => ?_) (fun q3 => (bif_i (fun q4 => ?_) (fun q4 => ?_))))) (fun q2 => ?_))))
    all_goals exact K_of h (by unfold cx2; grind)
  have h21 : ∀ x : Int, 32 ≤ x → x < 127 ∨ 192 ≤ x → K (cx2 x) ι → bW sc 148 21 [bi x] [] ι (bk1 K H) := fun x c1 c2 h => by
    refine e_X_secondOf_21 (bif_i (fun q1 => ?_) (fun q1 => (bif_i (fun q2 => ?_) (fun q2 => (bif_i (fun q3 => ?_) (fun q3 => ?_))))))
    · exact K_of h (by unfold cx2; grind)
    · exact h40 x (by omega) (by omega) (by omega) h
    · exact K_of h (by unfold cx2; grind)
    · exact h40 x (by omega) (by omega) (by omega) h
  refine e_X_secondOf_0 (bif_i (fun q1 => ?_) (fun q1 => (bif_i (fun q2 => ?_) (fun q2 => (bif_i (fun q3 => ?_) (fun q3 => ?_))))))
  · exact e_X_secondOf_19 (K_of h (by unfold cx2; grind))
  · exact h21 x (by omega) (by omega) h
  · exact h21 x (by omega) (by omega) h
  · exact e_X_secondOf_19 (K_of h (by unfold cx2; grind))
theorem m_second {x : Int} (hx : 0 ≤ x ∧ x < 256) (h : K (cx2 x) ι) : bC sc 209 [bi x] ι (bk1 K H) := by
  refine e_M_second_0 (bif_i (fun q1 => ?_) (fun q1 => (bif_i (fun q2 => (bif_i (fun q3 => (bif_i (fun q4 => (bif_i (fun q5 => (bif_i (fun q6 => ?_) (fun q6 => ?_))) (fun q5 => ?_))) (fun q4 => ?_))) (fun q3 => ?_))) (fun q2 => ?_))))
  all_goals exact K_of h (by unfold cx2; grind)
theorem s_sizeOf {x : Int} (hx : 0 ≤ x ∧ x < 256) (h : K (cxs x) ι) : bC sc 149 [bi x] ι (bk1 K H) := by
  refine e_X_sizeOf_0 (bif_i (fun q1 => (bif_i (fun q2 => (bif_i (fun q3 => (bif_i (fun q4 => ?_) (fun q4 => ?_))) (fun q3 => ?_))) (fun q2 => (bif_i (fun q3 => ?_) (fun q3 => ?_))))) (fun q1 => (bif_i (fun q2 => ?_) (fun q2 => (bif_i (fun q3 => ?_) (fun q3 => ?_))))))
  all_goals exact K_of h (by unfold cxs; grind)
theorem m_sizeOf {x : Int} (hx : 0 ≤ x ∧ x < 256) (h : K (cxs x) ι) : bC sc 210 [bi x] ι (bk1 K H) := by
  refine e_M_sizeOf_0 (bif_i (fun q1 => ?_) (fun q1 => (bif_i (fun q2 => (bif_i (fun q3 => (bif_i (fun q4 => (bif_i (fun q5 => (bif_i (fun q6 => (bif_i (fun q7 => ?_) (fun q7 => ?_))) (fun q6 => ?_))) (fun q5 => ?_))) (fun q4 => ?_))) (fun q3 => ?_))) (fun q2 => ?_))))
  all_goals exact K_of h (by unfold cxs; grind)
/-- the context -/
def cx (m a b : Int) : Int := if m = 0 then a % 64 else if m = 1 then a / 4 else if m = 2 then bm_or (cx1 a) (cx2 b) else 8 * cxs a + cxs b
theorem cx1_rg (x : Int) : (0 ≤ cx1 x ∧ cx1 x < 64) := by unfold cx1 sg1; grind (splits := 60)
theorem cx2_rg (x : Int) : 0 ≤ cx2 x ∧ cx2 x < 4 := by unfold cx2; grind
theorem cxs_rg (x : Int) : 0 ≤ cxs x ∧ cxs x < 8 := by unfold cxs; grind
theorem or_lt {x y : Int} (hx : 0 ≤ x ∧ x < 64) (hy : 0 ≤ y ∧ y < 64) : 0 ≤ bm_or x y ∧ bm_or x y < 64 := by
  rw [bm_or_nn (by omega) (by omega)]
  have := Nat.or_lt_two_pow (x := x.toNat) (y := y.toNat) (n := 6) (by omega) (by omega)
  omega
theorem cx_rg {m a b : Int} (ha : 0 ≤ a ∧ a < 256) (hb : 0 ≤ b ∧ b < 256) : 0 ≤ cx m a b ∧ cx m a b < 64 := by
  have h1 := cx1_rg a
  have h2 := cx2_rg b
  have h3 := cxs_rg a
  have h4 := cxs_rg b
  have h5 := or_lt h1 (y := cx2 b) (by omega)
  unfold cx
  by_cases c : m = 0
  · rw [if_pos c]; omega
  rw [if_neg c]
  by_cases c : m = 1
  · rw [if_pos c]; omega
  rw [if_neg c]
  by_cases c : m = 2
  · rw [if_pos c]; exact h5
  rw [if_neg c]; omega
theorem s_context {m a b : Int} (ha : 0 ≤ a ∧ a < 256) (hb : 0 ≤ b ∧ b < 256) (h : K (cx m a b) ι) : bC sc 144 [bi m, bi a, bi b] ι (bk1 K H) := by
  have h3 := cxs_rg a
  have h4 := cxs_rg b
  refine e_X_context_0 (bif_i (fun c => K_of h (if_pos c)) (fun c => bif_i (fun c1 => ⟨by omega, K_of h (by unfold cx; rw [if_neg c, if_pos c1])⟩) (fun c1 => bif_i (fun c2 => s_firstOf ha (s_secondOf hb (K_of h (by unfold cx; rw [if_neg c, if_neg c1, if_pos c2])))) (fun c2 => s_sizeOf ha ⟨by omega, s_sizeOf hb ⟨by omega, K_of h (by unfold cx; rw [if_neg c, if_neg c1, if_neg c2])⟩⟩))))
end Tables
