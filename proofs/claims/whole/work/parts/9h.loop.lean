/-! the law: its loop, over Int -/
section LawLoop
variable {sc : bm_Sc}
abbrev JJ (ι : bm_S) : Prop := Jn (fun ι => Jo ι ∧ Jp ι) ι
theorem bk1_mono {K K' : Int → bm_S → Prop} {H H' : Nat × Int → bm_S → Prop} (hK : ∀ x ι, K x ι → K' x ι) (hH : ∀ q ι, H q ι → H' q ι) : ∀ (o : bm_O) (ι : bm_S), bk1 K H o ι → bk1 K' H' o ι := fun o ι h => by
  rcases o with (_ | (x | x | x)) | q
  · exact h
  · exact hK x ι h
  · exact h
  · exact h
  · exact hH q ι h
theorem Jp_farO (ι ι' : bm_S) (hF : Fr oF ι ι') (h : Jp ι) : Jp ι' := by
  unfold Jp
  rw [hF 9 0 4 (by omega), hF 13 0 63 (by omega)]
  refine ⟨h.1, h.2.1, fun i x y => ?_⟩
  rw [hF 55 0 i (by omega), hF 56 0 i (by omega), hF 57 0 i (by omega), hF 58 0 i (by omega), hF 104 0 _ (by omega), hF 104 0 _ (by omega), hF 104 0 _ (by omega), hF 104 0 _ (by omega)]
  exact h.2.2 i x y
theorem X_rg (k : Int) : bm_rg (bm_X sc 211 k) := bm_rgt _
theorem XL_211 : bm_XL sc 211 = (sc.1 : Int) := rfl
/-- both calls answer alike: the law goes on -/
theorem pair_go {x m : Nat} {as : List bm_V} {ι : bm_S} {K : bm_S → Prop} {H1 H2 : Nat × Int → bm_S → Prop} {C : Int → Int → bm_S → Prop} (hP : Pair sc x m as ι JJ) (hK : ∀ ι2, JJ ι2 → K ι2) (hC : ∀ r ι2, K ι2 → C r r ι2) : bC sc x (br 11 0 :: as) ι (bk1 (fun r1 ι1 => bC sc m (br 13 0 :: as) ι1 (bk1 (fun r2 ι2 => C r1 r2 ι2) H2)) H1) :=
  bC.mono hP (bk1_mono (fun r1 ι1 h => bC.mono h (bk1_mono (fun r2 ι2 h => by rw [← h.1]; exact hC r1 ι2 (hK ι2 h.2)) (fun _ _ f => f.elim))) (fun _ _ f => f.elim))
def lwQ (o : bm_O) (_ : bm_S) : Prop := o = .inl (some (bi 1))
theorem law_feed {i : Int} {ι : bm_S} (hi : 0 ≤ i ∧ i ≤ bm_XL sc 211 - 6) (hs : sc.1 ≤ 384) (hJ : JJ ι) (hK : ∀ ι2, JJ ι2 → bW sc 264 658 [br 211 0, br 11 0, br 13 0, bi i] [] ι2 lwQ) : bW sc 264 128 [br 211 0, br 11 0, br 13 0, bi i] [] ι lwQ := by
  rw [XL_211] at hi
  refine e_law_128 ⟨by omega, by rw [XL_211]; omega, by omega, by rw [XL_211]; omega, by omega, by rw [XL_211]; omega, by omega, by rw [XL_211]; omega, by omega, by rw [XL_211]; omega, bC.mono (p_feed Jop_far ⟨X_rg _, X_rg _, X_rg _, X_rg _, X_rg _⟩ hJ) (bk1_mono (fun r1 ι1 h => ⟨by omega, by rw [XL_211]; omega, by omega, by rw [XL_211]; omega, by omega, by rw [XL_211]; omega, by omega, by rw [XL_211]; omega, by omega, by rw [XL_211]; omega, bC.mono h (bk1_mono (fun r2 ι2 h => bif_t h.1 (hK ι2 h.2)) (fun _ _ f => f.elim))⟩) (fun _ _ f => f.elim))⟩
theorem law_end {i : Int} {ι : bm_S} (hi : 0 ≤ i ∧ i ≤ bm_XL sc 211 - 6) (hs : sc.1 ≤ 384) (hJ : JJ ι) (hK : ∀ ι2, JJ ι2 → bW sc 264 658 [br 211 0, br 11 0, br 13 0, bi i] [] ι2 lwQ) : bW sc 264 191 [br 211 0, br 11 0, br 13 0, bi i] [] ι lwQ := by
  rw [XL_211] at hi
  refine e_law_191 ⟨by omega, by rw [XL_211]; omega, bC.mono (p_end Jop_far hJ) (bk1_mono (fun r1 ι1 h => ⟨by omega, by rw [XL_211]; omega, bC.mono h (bk1_mono (fun r2 ι2 h => bif_t h.1 (hK ι2 h.2)) (fun _ _ f => f.elim))⟩) (fun _ _ f => f.elim))⟩
theorem law_bits {i : Int} {ι : bm_S} (hi : 0 ≤ i ∧ i ≤ bm_XL sc 211 - 6) (hs : sc.1 ≤ 384) (hJ : JJ ι) (hK : ∀ ι2, JJ ι2 → bW sc 264 658 [br 211 0, br 11 0, br 13 0, bi i] [] ι2 lwQ) : bW sc 264 214 [br 211 0, br 11 0, br 13 0, bi i] [] ι lwQ := by
  rw [XL_211] at hi
  refine e_law_214 ⟨by omega, by rw [XL_211]; omega, by omega, by rw [XL_211]; omega, bC.mono (p_bits Jop_far hJ) (bk1_mono (fun r1 ι1 h => ⟨by omega, by rw [XL_211]; omega, by omega, by rw [XL_211]; omega, bC.mono h (bk1_mono (fun r2 ι2 h => bif_t h.1 (hK ι2 h.2)) (fun _ _ f => f.elim))⟩) (fun _ _ f => f.elim))⟩
theorem law_spoil {i : Int} {ι : bm_S} (hi : 0 ≤ i ∧ i ≤ bm_XL sc 211 - 6) (hs : sc.1 ≤ 384) (hJ : JJ ι) (hK : ∀ ι2, JJ ι2 → bW sc 264 658 [br 211 0, br 11 0, br 13 0, bi i] [] ι2 lwQ) : bW sc 264 247 [br 211 0, br 11 0, br 13 0, bi i] [] ι lwQ := by
  rw [XL_211] at hi
  refine e_law_247 ⟨by omega, by rw [XL_211]; omega, by omega, by rw [XL_211]; omega, bC.mono (p_spoil Jop_far hJ) (bk1_mono (fun r1 ι1 h => ⟨by omega, by rw [XL_211]; omega, by omega, by rw [XL_211]; omega, bC.mono h (bk1_mono (fun r2 ι2 h => bif_t h.1 (hK ι2 h.2)) (fun _ _ f => f.elim))⟩) (fun _ _ f => f.elim))⟩
theorem law_wipe {i : Int} {ι : bm_S} (hi : 0 ≤ i ∧ i ≤ bm_XL sc 211 - 6) (hs : sc.1 ≤ 384) (hJ : JJ ι) (hK : ∀ ι2, JJ ι2 → bW sc 264 658 [br 211 0, br 11 0, br 13 0, bi i] [] ι2 lwQ) : bW sc 264 280 [br 211 0, br 11 0, br 13 0, bi i] [] ι lwQ := by
  rw [XL_211] at hi
  refine e_law_280 (bC.mono (p_wipe Jop_far hJ) (bk1_mono (fun r1 ι1 h => bC.mono h (bk1_mono (fun r2 ι2 h => bif_t h.1 (hK ι2 h.2)) (fun _ _ f => f.elim))) (fun _ _ f => f.elim)))
theorem law_word {i : Int} {ι : bm_S} (hi : 0 ≤ i ∧ i ≤ bm_XL sc 211 - 6) (hs : sc.1 ≤ 384) (hJ : JJ ι) (hK : ∀ ι2, JJ ι2 → bW sc 264 658 [br 211 0, br 11 0, br 13 0, bi i] [] ι2 lwQ) : bW sc 264 293 [br 211 0, br 11 0, br 13 0, bi i] [] ι lwQ := by
  rw [XL_211] at hi
  refine e_law_293 (bC.mono (p_word Jop_far hJ) (bk1_mono (fun r1 ι1 h => bC.mono h (bk1_mono (fun r2 ι2 h => bif_t h.1 (hK ι2 h.2)) (fun _ _ f => f.elim))) (fun _ _ f => f.elim)))
theorem law_clear {i : Int} {ι : bm_S} (hi : 0 ≤ i ∧ i ≤ bm_XL sc 211 - 6) (hs : sc.1 ≤ 384) (hJ : JJ ι) (hK : ∀ ι2, JJ ι2 → bW sc 264 658 [br 211 0, br 11 0, br 13 0, bi i] [] ι2 lwQ) : bW sc 264 306 [br 211 0, br 11 0, br 13 0, bi i] [] ι lwQ := by
  rw [XL_211] at hi
  refine e_law_306 (bC.mono (p_clear Jop_far hJ) (bk1_mono (fun r1 ι1 h => bC.mono h (bk1_mono (fun r2 ι2 h => bif_t h.1 (hK ι2 h.2)) (fun _ _ f => f.elim))) (fun _ _ f => f.elim)))
theorem law_digest {i : Int} {ι : bm_S} (hi : 0 ≤ i ∧ i ≤ bm_XL sc 211 - 6) (hs : sc.1 ≤ 384) (hJ : JJ ι) (hK : ∀ ι2, JJ ι2 → bW sc 264 658 [br 211 0, br 11 0, br 13 0, bi i] [] ι2 lwQ) : bW sc 264 319 [br 211 0, br 11 0, br 13 0, bi i] [] ι lwQ := by
  rw [XL_211] at hi
  refine e_law_319 (bC.mono (p_digest Jop_far hJ) (bk1_mono (fun r1 ι1 h => bC.mono h (bk1_mono (fun r2 ι2 h => bif_t h.1 (hK ι2 h.2)) (fun _ _ f => f.elim))) (fun _ _ f => f.elim)))
theorem law_changed {i : Int} {ι : bm_S} (hi : 0 ≤ i ∧ i ≤ bm_XL sc 211 - 6) (hs : sc.1 ≤ 384) (hJ : JJ ι) (hK : ∀ ι2, JJ ι2 → bW sc 264 658 [br 211 0, br 11 0, br 13 0, bi i] [] ι2 lwQ) : bW sc 264 332 [br 211 0, br 11 0, br 13 0, bi i] [] ι lwQ := by
  rw [XL_211] at hi
  refine e_law_332 ⟨by omega, by rw [XL_211]; omega, by omega, by rw [XL_211]; omega, by omega, by rw [XL_211]; omega, by omega, by rw [XL_211]; omega, bC.mono (p_changed Jop_far hJ) (bk1_mono (fun r1 ι1 h => ⟨by omega, by rw [XL_211]; omega, by omega, by rw [XL_211]; omega, by omega, by rw [XL_211]; omega, by omega, by rw [XL_211]; omega, bC.mono h (bk1_mono (fun r2 ι2 h => bif_t h.1 (hK ι2 h.2)) (fun _ _ f => f.elim))⟩) (fun _ _ f => f.elim))⟩
theorem law_pack {i : Int} {ι : bm_S} (hi : 0 ≤ i ∧ i ≤ bm_XL sc 211 - 6) (hs : sc.1 ≤ 384) (hJ : JJ ι) (hK : ∀ ι2, JJ ι2 → bW sc 264 658 [br 211 0, br 11 0, br 13 0, bi i] [] ι2 lwQ) : bW sc 264 385 [br 211 0, br 11 0, br 13 0, bi i] [] ι lwQ := by
  rw [XL_211] at hi
  refine e_law_385 ⟨by omega, by rw [XL_211]; omega, bC.mono (p_pack hJ) (bk1_mono (fun r1 ι1 h => ⟨by omega, by rw [XL_211]; omega, bC.mono h (bk1_mono (fun r2 ι2 h => bif_t h.1 (hK ι2 h.2)) (fun _ _ f => f.elim))⟩) (fun _ _ f => f.elim))⟩
theorem law_open {i : Int} {ι : bm_S} (hi : 0 ≤ i ∧ i ≤ bm_XL sc 211 - 6) (hs : sc.1 ≤ 384) (hJ : JJ ι) (hK : ∀ ι2, JJ ι2 → bW sc 264 658 [br 211 0, br 11 0, br 13 0, bi i] [] ι2 lwQ) : bW sc 264 408 [br 211 0, br 11 0, br 13 0, bi i] [] ι lwQ := by
  rw [XL_211] at hi
  refine e_law_408 (bC.mono (p_open (Rp := Jp) Jp_farO hJ) (bk1_mono (fun r1 ι1 h => bC.mono h (bk1_mono (fun r2 ι2 h => bif_t h.1 (hK ι2 h.2)) (fun _ _ f => f.elim))) (fun _ _ f => f.elim)))
theorem law_pass {i : Int} {ι : bm_S} (hi : 0 ≤ i ∧ i ≤ bm_XL sc 211 - 6) (hs : sc.1 ≤ 384) (hJ : JJ ι) (hK : ∀ ι2, JJ ι2 → bW sc 264 658 [br 211 0, br 11 0, br 13 0, bi i] [] ι2 lwQ) : bW sc 264 421 [br 211 0, br 11 0, br 13 0, bi i] [] ι lwQ := by
  rw [XL_211] at hi
  refine e_law_421 (bC.mono (p_pass Jop_far hJ) (bk1_mono (fun r1 ι1 h => bC.mono h (bk1_mono (fun r2 ι2 h => bif_t h.1 (hK ι2 h.2)) (fun _ _ f => f.elim))) (fun _ _ f => f.elim)))
theorem law_out {i : Int} {ι : bm_S} (hi : 0 ≤ i ∧ i ≤ bm_XL sc 211 - 6) (hs : sc.1 ≤ 384) (hJ : JJ ι) (hK : ∀ ι2, JJ ι2 → bW sc 264 658 [br 211 0, br 11 0, br 13 0, bi i] [] ι2 lwQ) : bW sc 264 434 [br 211 0, br 11 0, br 13 0, bi i] [] ι lwQ := by
  rw [XL_211] at hi
  refine e_law_434 ⟨by omega, by rw [XL_211]; omega, bC.mono (p_out Jop_far hJ) (bk1_mono (fun r1 ι1 h => ⟨by omega, by rw [XL_211]; omega, bC.mono h (bk1_mono (fun r2 ι2 h => bif_t h.1 (hK ι2 h.2)) (fun _ _ f => f.elim))⟩) (fun _ _ f => f.elim))⟩
theorem law_read {i : Int} {ι : bm_S} (hi : 0 ≤ i ∧ i ≤ bm_XL sc 211 - 6) (hs : sc.1 ≤ 384) (hJ : JJ ι) (hK : ∀ ι2, JJ ι2 → bW sc 264 658 [br 211 0, br 11 0, br 13 0, bi i] [] ι2 lwQ) : bW sc 264 457 [br 211 0, br 11 0, br 13 0, bi i] [] ι lwQ := by
  rw [XL_211] at hi
  refine e_law_457 (bC.mono (p_read Jop_far hJ hJ.2.2.2.1) (bk1_mono (fun r1 ι1 h => bC.mono h (bk1_mono (fun r2 ι2 h => bif_t h.1 (hK ι2 h.2)) (fun _ _ f => f.elim))) (fun _ _ f => f.elim)))
theorem law_part {i : Int} {ι : bm_S} (hi : 0 ≤ i ∧ i ≤ bm_XL sc 211 - 6) (hs : sc.1 ≤ 384) (hJ : JJ ι) (hK : ∀ ι2, JJ ι2 → bW sc 264 658 [br 211 0, br 11 0, br 13 0, bi i] [] ι2 lwQ) : bW sc 264 470 [br 211 0, br 11 0, br 13 0, bi i] [] ι lwQ := by
  rw [XL_211] at hi
  refine e_law_470 ⟨by omega, by rw [XL_211]; omega, by omega, by rw [XL_211]; omega, bC.mono (p_part Jop_far hJ hJ.2.2.2.1) (bk1_mono (fun r1 ι1 h => ⟨by omega, by rw [XL_211]; omega, by omega, by rw [XL_211]; omega, bC.mono h (bk1_mono (fun r2 ι2 h => bif_t h.1 (hK ι2 h.2)) (fun _ _ f => f.elim))⟩) (fun _ _ f => f.elim))⟩
theorem law_ring {i : Int} {ι : bm_S} (hi : 0 ≤ i ∧ i ≤ bm_XL sc 211 - 6) (hs : sc.1 ≤ 384) (hJ : JJ ι) (hK : ∀ ι2, JJ ι2 → bW sc 264 658 [br 211 0, br 11 0, br 13 0, bi i] [] ι2 lwQ) : bW sc 264 503 [br 211 0, br 11 0, br 13 0, bi i] [] ι lwQ := by
  rw [XL_211] at hi
  refine e_law_503 ⟨by omega, by rw [XL_211]; omega, bC.mono (p_ring Jop_far hJ hJ.2.2.2.1) (bk1_mono (fun r1 ι1 h => ⟨by omega, by rw [XL_211]; omega, bC.mono h (bk1_mono (fun r2 ι2 h => bif_t h.1 (hK ι2 h.2)) (fun _ _ f => f.elim))⟩) (fun _ _ f => f.elim))⟩
theorem law_map {i : Int} {ι : bm_S} (hi : 0 ≤ i ∧ i ≤ bm_XL sc 211 - 6) (hs : sc.1 ≤ 384) (hJ : JJ ι) (hK : ∀ ι2, JJ ι2 → bW sc 264 658 [br 211 0, br 11 0, br 13 0, bi i] [] ι2 lwQ) : bW sc 264 526 [br 211 0, br 11 0, br 13 0, bi i] [] ι lwQ := by
  rw [XL_211] at hi
  refine e_law_526 ⟨by omega, by rw [XL_211]; omega, by omega, by rw [XL_211]; omega, bC.mono (p_map Jop_far hJ hJ.2.2.2.1) (bk1_mono (fun r1 ι1 h => ⟨by omega, by rw [XL_211]; omega, by omega, by rw [XL_211]; omega, bC.mono h (bk1_mono (fun r2 ι2 h => bif_t h.1 (hK ι2 h.2)) (fun _ _ f => f.elim))⟩) (fun _ _ f => f.elim))⟩
theorem law_length {i : Int} {ι : bm_S} (hi : 0 ≤ i ∧ i ≤ bm_XL sc 211 - 6) (hs : sc.1 ≤ 384) (hJ : JJ ι) (hK : ∀ ι2, JJ ι2 → bW sc 264 658 [br 211 0, br 11 0, br 13 0, bi i] [] ι2 lwQ) : bW sc 264 559 [br 211 0, br 11 0, br 13 0, bi i] [] ι lwQ := by
  rw [XL_211] at hi
  refine e_law_559 ⟨by omega, by rw [XL_211]; omega, by omega, by rw [XL_211]; omega, by omega, by rw [XL_211]; omega, bC.mono (p_length Jop_far hJ hJ.2.2.2.1) (bk1_mono (fun r1 ι1 h => ⟨by omega, by rw [XL_211]; omega, by omega, by rw [XL_211]; omega, by omega, by rw [XL_211]; omega, bC.mono h (bk1_mono (fun r2 ι2 h => bif_t h.1 (hK ι2 h.2)) (fun _ _ f => f.elim))⟩) (fun _ _ f => f.elim))⟩
theorem law_command {i : Int} {ι : bm_S} (hi : 0 ≤ i ∧ i ≤ bm_XL sc 211 - 6) (hs : sc.1 ≤ 384) (hJ : JJ ι) (hK : ∀ ι2, JJ ι2 → bW sc 264 658 [br 211 0, br 11 0, br 13 0, bi i] [] ι2 lwQ) : bW sc 264 602 [br 211 0, br 11 0, br 13 0, bi i] [] ι lwQ := by
  rw [XL_211] at hi
  refine e_law_602 ⟨by omega, by rw [XL_211]; omega, by omega, by rw [XL_211]; omega, bC.mono (p_command Jop_far hJ hJ.2.2.2.2) (bk1_mono (fun r1 ι1 h => ⟨by omega, by rw [XL_211]; omega, by omega, by rw [XL_211]; omega, bC.mono h (bk1_mono (fun r2 ι2 h => bif_t h.1 (hK ι2 h.2)) (fun _ _ f => f.elim))⟩) (fun _ _ f => f.elim))⟩
theorem law_count {i : Int} {ι : bm_S} (hi : 0 ≤ i ∧ i ≤ bm_XL sc 211 - 6) (hs : sc.1 ≤ 384) (hJ : JJ ι) (hK : ∀ ι2, JJ ι2 → bW sc 264 658 [br 211 0, br 11 0, br 13 0, bi i] [] ι2 lwQ) : bW sc 264 635 [br 211 0, br 11 0, br 13 0, bi i] [] ι lwQ := by
  rw [XL_211] at hi
  refine e_law_635 ⟨by omega, by rw [XL_211]; omega, bC.mono (p_count Jop_far hJ hJ.2.2.2.1 hJ.2.2.2.2) (bk1_mono (fun r1 ι1 h => ⟨by omega, by rw [XL_211]; omega, bC.mono h (bk1_mono (fun r2 ι2 h => bif_t h.1 (hK ι2 h.2)) (fun _ _ f => f.elim))⟩) (fun _ _ f => f.elim))⟩
theorem law_loop (hs : sc.1 ≤ 384) : ∀ (m : Nat) (i : Int) (ι : bm_S), bm_XL sc 211 - i < m → 0 ≤ i → i ≤ bm_XL sc 211 → JJ ι → bW sc 264 18 [br 211 0, br 11 0, br 13 0, bi i] [] ι lwQ := by
  have eL : bm_XL sc 211 = (sc.1 : Int) := XL_211
  intro m
  induction m with
  | zero => intro i ι hm h0 h1 hJ; omega
  | succ m ih =>
    intro i ι hm h0 h1 hJ
    refine e_law_18 ⟨by omega, bif_i (fun z => ⟨by omega, rfl⟩) (fun z => ⟨by omega, ?_⟩)⟩
    have hi : 0 ≤ i ∧ i ≤ bm_XL sc 211 - 6 := by omega
    have next : ∀ ι2, JJ ι2 → bW sc 264 658 [br 211 0, br 11 0, br 13 0, bi i] [] ι2 lwQ := fun ι2 h2 => e_law_658 ⟨by omega, ih (i + 6) ι2 (by omega) (by omega) (by omega) h2⟩
    exact bif_i (fun _ => law_feed hi hs hJ next) (fun _ => bif_i (fun _ => law_end hi hs hJ next) (fun _ => bif_i (fun _ => law_bits hi hs hJ next) (fun _ => bif_i (fun _ => law_spoil hi hs hJ next) (fun _ => bif_i (fun _ => law_wipe hi hs hJ next) (fun _ => bif_i (fun _ => law_word hi hs hJ next) (fun _ => bif_i (fun _ => law_clear hi hs hJ next) (fun _ => bif_i (fun _ => law_digest hi hs hJ next) (fun _ => bif_i (fun _ => law_changed hi hs hJ next) (fun _ => bif_i (fun _ => law_pack hi hs hJ next) (fun _ => bif_i (fun _ => law_open hi hs hJ next) (fun _ => bif_i (fun _ => law_pass hi hs hJ next) (fun _ => bif_i (fun _ => law_out hi hs hJ next) (fun _ => bif_i (fun _ => law_read hi hs hJ next) (fun _ => bif_i (fun _ => law_part hi hs hJ next) (fun _ => bif_i (fun _ => law_ring hi hs hJ next) (fun _ => bif_i (fun _ => law_map hi hs hJ next) (fun _ => bif_i (fun _ => law_length hi hs hJ next) (fun _ => bif_i (fun _ => law_command hi hs hJ next) (fun _ => bif_i (fun _ => law_count hi hs hJ next) (fun _ => next ι hJ))))))))))))))))))))
end LawLoop
section LawStart
def ι0 : bm_S := fun t i j => if t = 8 ∧ i = 0 ∧ j = 4 then 0 else if t = 8 ∧ i = 0 ∧ j = 6 then 1 else (ah_I am_h4 t i.toNat j.toNat).toInt
theorem ι0_n {t : Nat} {i j : Int} (h : ¬ (t = 8 ∧ (j = 4 ∨ j = 6))) : ι0 t i j = (ah_I am_h4 t i.toNat j.toNat).toInt := by
  unfold ι0
  rw [if_neg (fun q => h ⟨q.1, Or.inl q.2.2⟩), if_neg (fun q => h ⟨q.1, Or.inr q.2.2⟩)]
theorem ι0_v {t i j : Nat} {x : Int32} {v ii jj : Int} (h : ¬ (t = 8 ∧ (jj = 4 ∨ jj = 6))) (e : ah_I am_h4 t i j = x) (hv : x.toInt = v) (hi : ii = (i : Int)) (hj : jj = (j : Int)) : ι0 t ii jj = v := by
  rw [ι0_n h, hi, hj, Int.toNat_natCast, Int.toNat_natCast, e]; exact hv
theorem ι0_sr : bm_sr ι0 := by
  refine ⟨fun t i j => ?_, ?_, ?_⟩
  · unfold ι0
    split
    · omega
    · split
      · omega
      · exact bm_rgt _
  · have e : ι0 8 0 4 = 0 := by unfold ι0; rw [if_pos ⟨rfl, rfl, rfl⟩]
    rw [e]; omega
  · have e : ι0 8 0 6 = 1 := by unfold ι0; rw [if_neg (fun q => by omega), if_pos ⟨rfl, rfl, rfl⟩]
    rw [e]; omega
theorem h4_rows : ∀ k : Nat, k < 2240 → ah_I am_h4 64 0 k = 0 ∧ ah_I am_h4 68 0 k = 0 := fun k hk => by
  have go : ∀ k : Nat, k < 1120 → (ah_I am_h4 64 0 k = 0 ∧ ah_I am_h4 68 0 k = 0) ∧ ah_I am_h4 64 0 (k + 1120) = 0 ∧ ah_I am_h4 68 0 (k + 1120) = 0 := fun k hk => by
    have h1 := List.all_eq_true.mp am_z64a k (List.mem_range.mpr hk)
    have h2 := List.all_eq_true.mp am_z64b k (List.mem_range.mpr hk)
    simp only [Bool.and_eq_true, beq_iff_eq] at h1 h2
    exact ⟨h1, h2⟩
  by_cases z : k < 1120
  · exact (go k z).1
  · have := (go (k - 1120) (by omega)).2
    rw [show k - 1120 + 1120 = k by omega] at this
    exact this
theorem h4_told : ∀ k : Nat, k < 720 → ah_I am_h4 52 0 k = 0 ∧ ah_I am_h4 76 0 k = 0 := fun k hk => by
  have h1 := List.all_eq_true.mp am_z52 k (List.mem_range.mpr hk)
  simp only [Bool.and_eq_true, beq_iff_eq] at h1
  exact h1
theorem z32 : (0 : Int32).toInt = 0 := by decide
theorem ι0_JJ : JJ ι0 := by
  have hI := am_h4_I
  simp only [Bool.and_eq_true, beq_iff_eq] at hI
  obtain ⟨⟨⟨⟨⟨⟨⟨⟨⟨⟨⟨⟨⟨⟨⟨⟨b65, b13⟩, b2⟩, c0⟩, c1⟩, c2⟩, c3⟩, d0⟩, d1⟩, d2⟩, d3⟩, b8⟩, b9⟩, b0⟩, b6⟩, b1⟩, b3⟩ := hI
  have g65 : ∀ j : Nat, j < 11 → ah_I am_h4 65 0 j = 0 ∧ ah_I am_h4 69 0 j = 0 := fun j hj => by
    have := List.all_eq_true.mp b65 j (List.mem_range.mpr hj)
    simp only [Bool.and_eq_true, beq_iff_eq] at this; exact this
  have g13 : ∀ j : Nat, j < 65 → ah_I am_h4 13 0 j = bif Nat.beq j 4 then -1 else 0 := fun j hj => by
    have := List.all_eq_true.mp b13 j (List.mem_range.mpr hj)
    simp only [beq_iff_eq] at this; exact this
  have g2 : ∀ j : Nat, j < 3 → ah_I am_h4 2 0 j = 0 ∧ ah_I am_h4 2 1 j = 0 := fun j hj => by
    have := List.all_eq_true.mp b2 j (List.mem_range.mpr hj)
    simp only [Bool.and_eq_true, beq_iff_eq] at this; exact this
  have g8 : ∀ j : Nat, j < 16 → ah_I am_h4 8 0 j = 0 := fun j hj => by
    have := List.all_eq_true.mp b8 j (List.mem_range.mpr hj)
    simp only [beq_iff_eq] at this; exact this
  have g9 : ∀ j : Nat, j < 18 → ah_I am_h4 9 0 j = 0 := fun j hj => by
    have := List.all_eq_true.mp b9 j (List.mem_range.mpr hj)
    simp only [beq_iff_eq] at this; exact this
  have g0 : ∀ j : Nat, j < 4 → ah_I am_h4 0 0 j = 0 := fun j hj => by
    have := List.all_eq_true.mp b0 j (List.mem_range.mpr hj)
    simp only [beq_iff_eq] at this; exact this
  have v2 : ∀ j : Int, 0 ≤ j → j < 3 → ι0 2 0 j = 0 ∧ ι0 2 1 j = 0 := fun j x y => by
    have e := g2 j.toNat (by omega)
    exact ⟨ι0_v (i := 0) (j := j.toNat) (by omega) e.1 z32 rfl (by omega), ι0_v (i := 1) (j := j.toNat) (by omega) e.2 z32 rfl (by omega)⟩
  have v13 : ∀ j : Int, 0 ≤ j → j < 65 → j ≠ 4 → ι0 13 0 j = 0 := fun j x y q => by
    have e := g13 j.toNat (by omega)
    rw [bm_bf (show j.toNat ≠ 4 by omega)] at e
    exact ι0_v (i := 0) (j := j.toNat) (by omega) e z32 rfl (by omega)
  have v134 : ι0 13 0 4 = -1 := by
    have e := g13 4 (by omega)
    exact ι0_v (i := 0) (j := 4) (by omega) e (by decide) rfl rfl
  have v8 : ∀ j : Int, 0 ≤ j → j < 16 → j ≠ 4 → j ≠ 6 → ι0 8 0 j = 0 := fun j x y q q2 => ι0_v (i := 0) (j := j.toNat) (by omega) (g8 j.toNat (by omega)) z32 rfl (by omega)
  have v84 : ι0 8 0 4 = 0 := by unfold ι0; rw [if_pos ⟨rfl, rfl, rfl⟩]
  have v86 : ι0 8 0 6 = 1 := by unfold ι0; rw [if_neg (fun q => by omega), if_pos ⟨rfl, rfl, rfl⟩]
  have s2 := v2 1 (by omega) (by omega)
  have s22 := v2 2 (by omega) (by omega)
  have row0 : ∀ (t : Nat) (n : Nat), t ≠ 8 → (∀ k : Nat, k < n → ah_I am_h4 t 0 k = 0) → ∀ k : Int, 0 ≤ k → k < n → ι0 t 0 k = 0 := fun t n ht h k x y => by
    exact ι0_v (i := 0) (j := k.toNat) (by omega) (h k.toNat (by omega)) z32 rfl (by omega)
  have r64 := row0 64 2240 (by omega) (fun k hk => (h4_rows k hk).1)
  have r68 := row0 68 2240 (by omega) (fun k hk => (h4_rows k hk).2)
  have r65 := row0 65 11 (by omega) (fun k hk => (g65 k hk).1)
  have r69 := row0 69 11 (by omega) (fun k hk => (g65 k hk).2)
  have r52 := row0 52 720 (by omega) (fun k hk => (h4_told k hk).1)
  have r76 := row0 76 720 (by omega) (fun k hk => (h4_told k hk).2)
  have e63 := v13 63 (by omega) (by omega) (by omega)
  refine ⟨⟨?_, ?_, fun k x y => ?_, ?_⟩, ⟨?_, ?_, fun k x y => ?_⟩, ⟨fun k x y => ?_, fun n x y => ?_⟩, ⟨?_, rg0, fun _ => 0, 0, 0, 1, 0, ι0, fun i x y => ?_, fun i x y => ?_, fun j x y => ?_, fun j x y => ?_, ?_, ?_, by omega, ⟨v84, v86, ?_, fun q => by omega⟩, ⟨?_, fun q => by omega⟩, ⟨Or.inl ⟨rfl, rfl⟩, Or.inl rfl, fun q => by omega⟩⟩, ⟨?_, ?_, fun i x y => ?_⟩⟩
  · rw [s2.1]; omega
  · rw [s2.1]; exact v13 3 (by omega) (by omega) (by omega)
  · rw [s2.1] at y; omega
  · rw [s2.1, s22.1, v134]; omega
  · rw [s2.2]; omega
  · rw [s2.2]; exact v13 6 (by omega) (by omega) (by omega)
  · rw [s2.2] at y; omega
  · rw [r64 k x (by omega), r68 k x (by omega)]; omega
  · rw [r65 n (by omega) (by omega), r69 n (by omega) (by omega)]; omega
  · rw [v13 20 (by omega) (by omega) (by omega)]
    exact ι0_v (i := 0) (j := 1) (by omega) (g0 1 (by omega)) z32 rfl rfl
  · have : i = 0 ∨ i = 1 ∨ i = 2 ∨ i = 3 := by omega
    rcases this with rfl | rfl | rfl | rfl
    · exact ι0_v (i := 0) (j := 0) (by omega) c0 (by decide) rfl rfl
    · exact ι0_v (i := 0) (j := 1) (by omega) c1 (by decide) rfl rfl
    · exact ι0_v (i := 0) (j := 2) (by omega) c2 (by decide) rfl rfl
    · exact ι0_v (i := 0) (j := 3) (by omega) c3 (by decide) rfl rfl
  · have : i = 0 ∨ i = 1 ∨ i = 2 ∨ i = 3 := by omega
    rcases this with rfl | rfl | rfl | rfl
    · exact ι0_v (i := 0) (j := 3) (by omega) d3 (by decide) rfl rfl
    · exact ι0_v (i := 0) (j := 2) (by omega) d2 (by decide) rfl rfl
    · exact ι0_v (i := 0) (j := 1) (by omega) d1 (by decide) rfl rfl
    · exact ι0_v (i := 0) (j := 0) (by omega) d0 (by decide) rfl rfl
  · exact r52 j x (by omega)
  · exact r76 j x (by omega)
  · exact v8 3 (by omega) (by omega) (by omega) (by omega)
  · exact v13 19 (by omega) (by omega) (by omega)
  · exact v8 5 (by omega) (by omega) (by omega) (by omega)
  · exact v13 33 (by omega) (by omega) (by omega)
  · rw [e63]; exact ι0_v (i := 0) (j := 4) (by omega) (g9 4 (by omega)) z32 rfl rfl
  · rw [e63]; omega
  · rw [e63] at y; omega
end LawStart
