/-! what holds while a method runs -/
def am_gl (σ : am_H) (l : List am_V) : Prop := ∀ v ∈ l, am_gv σ v
theorem am_gl.t {σ : am_H} {v : am_V} {l : List am_V} (h : am_gl σ (v :: l)) : am_gl σ l := fun w hw => h w (List.mem_cons_of_mem _ hw)
theorem am_gl.h {σ : am_H} {v : am_V} {l : List am_V} (h : am_gl σ (v :: l)) : am_gv σ v := h v List.mem_cons_self
theorem am_gl.c {σ : am_H} {v : am_V} {l : List am_V} (hv : am_gv σ v) (h : am_gl σ l) : am_gl σ (v :: l) := fun w hw => (List.mem_cons.mp hw).elim (fun e => e ▸ hv) (h w)
theorem am_gl.base {σ σ' : am_H} (hb : σ'.1 = σ.1) {l : List am_V} (h : am_gl σ l) : am_gl σ' l := fun v hv => am_gv_base hb (h v hv)
theorem am_gl.mk {σ : am_H} (hwf : am_wf σ) {t n : Nat} {l : List am_V} (h : am_gl σ l) : am_gl (am_mk σ t n) l := fun v hv => by
  have h1 := h v hv
  rcases v with x | x | _ | q
  · trivial
  · trivial
  · trivial
  · exact (am_gq_mk hwf h1).1
theorem am_gl.at {σ : am_H} {l : List am_V} (h : am_gl σ l) {k : Nat} {v : am_V} (hk : l[k]? = some v) : am_gv σ v := h v (List.mem_of_getElem? hk)
theorem am_gl.set {σ : am_H} {l : List am_V} (h : am_gl σ l) {k : Nat} {v : am_V} (hv : am_gv σ v) : am_gl σ (l.set k v) := fun w hw => by
  rcases List.mem_or_eq_of_mem_set hw with h1 | h1
  · exact h w h1
  · rw [h1]; exact hv
section AmLs
variable (xa : Nat → Nat) (uv : Nat → Value)
def am_ls (f : Nat → Nat) (σ : am_H) (ls : List am_V) (lsA : Array Slot) : Prop := lsA.size = ls.length ∧ lv_wf lsA ∧ ∀ (i : Nat) (v : am_V), ls[i]? = some v → am_nl v = true → lsA[i]? = some (Slot.val (am_cv xa uv f σ v))
def am_lv (f : Nat → Nat) (σ : am_H) (ls : List am_V) : List (Nat × Value) := (List.range ls.length).filterMap (fun i => match ls[i]? with
  | some v => if am_nl v = true then some (i, am_cv xa uv f σ v) else none
  | none => none)
theorem am_lv_mem {f : Nat → Nat} {σ : am_H} {ls : List am_V} {i : Nat} {w : Value} : (i, w) ∈ am_lv xa uv f σ ls ↔ ∃ v, ls[i]? = some v ∧ am_nl v = true ∧ w = am_cv xa uv f σ v := by
  unfold am_lv
  rw [List.mem_filterMap]
  constructor
  · intro ⟨k, hk, h⟩
    cases hv : ls[k]? with
    | none => simp [hv] at h
    | some v =>
      simp only [hv] at h
      by_cases hn : am_nl v = true
      · rw [if_pos hn] at h
        cases h
        exact ⟨v, hv, hn, rfl⟩
      · rw [if_neg hn] at h; cases h
  · intro ⟨v, hv, hn, hw⟩
    refine ⟨i, List.mem_range.mpr (List.getElem?_eq_some_iff.mp hv).1, ?_⟩
    simp only [hv]
    rw [if_pos hn, hw]
theorem am_ls_has {f : Nat → Nat} {σ : am_H} {ls : List am_V} {lsA : Array Slot} (h : am_ls xa uv f σ ls lsA) : lv_has lsA ls.length (am_lv xa uv f σ ls) := by
  refine ⟨h.1, h.2.1, fun q hq => ?_⟩
  obtain ⟨i, w⟩ := q
  obtain ⟨v, hv, hn, rfl⟩ := (am_lv_mem xa uv).mp hq
  exact h.2.2 i v hv hn
theorem am_cat1 {f : Nat → Nat} {σ : am_H} {v : am_V} (hu : ∀ a, uv a = .null ∨ ∃ b, uv a = .ref b) (h : am_nl v = true) : (am_cv xa uv f σ v).category = 1 := by
  rcases v with x | x | _ | q
  · rfl
  · cases h
  · rfl
  · show (am_rv xa uv f σ q).category = 1
    unfold am_rv
    cases Nat.blt q.1 200
    · cases Nat.blt q.1 220
      · rcases hu q.1 with e | ⟨b, e⟩ <;> simp [e, Value.category]
      · rfl
    · rfl
/-- behind a store -/
theorem am_ls_put {f : Nat → Nat} {σ : am_H} {ls : List am_V} {ls' : Array Slot} {i : Nat} {v : am_V} (hu : ∀ a, uv a = .null ∨ ∃ b, uv a = .ref b) (hi : i < ls.length)
    (h : lv_has ls' ls.length ((i, am_cv xa uv f σ v) :: (am_lv xa uv f σ ls).filter (fun q => !(q.1 == i) && !(q.1 + 1 == i && q.2.category == 2)))) : am_ls xa uv f σ (ls.set i v) ls' := by
  refine ⟨by rw [List.length_set]; exact h.1, h.2.1, fun j w hj hn => ?_⟩
  by_cases he : j = i
  · subst he
    rw [List.getElem?_set_self hi] at hj
    cases hj
    exact h.2.2 (j, _) List.mem_cons_self
  · rw [List.getElem?_set_ne (fun e => he e.symm)] at hj
    have hm : (j, am_cv xa uv f σ w) ∈ am_lv xa uv f σ ls := (am_lv_mem xa uv).mpr ⟨w, hj, hn, rfl⟩
    refine h.2.2 (j, am_cv xa uv f σ w) (List.mem_cons_of_mem _ (List.mem_filter.mpr ⟨hm, ?_⟩))
    have hc := am_cat1 xa uv (f := f) (σ := σ) hu hn
    simp [he, hc]
theorem am_ls_base {f : Nat → Nat} {σ σ' : am_H} (hb : σ'.1 = σ.1) {ls : List am_V} {lsA : Array Slot} (h : am_ls xa uv f σ ls lsA) : am_ls xa uv f σ' ls lsA := ⟨h.1, h.2.1, fun i v hi hn => by rw [am_cv_base xa uv hb]; exact h.2.2 i v hi hn⟩
theorem am_ls_cong {f f' : Nat → Nat} {σ σ' : am_H} {ls : List am_V} (hc : ∀ v ∈ ls, am_cv xa uv f' σ' v = am_cv xa uv f σ v) {lsA : Array Slot} (h : am_ls xa uv f σ ls lsA) : am_ls xa uv f' σ' ls lsA := ⟨h.1, h.2.1, fun i v hi hn => by rw [hc v (List.mem_of_getElem? hi)]; exact h.2.2 i v hi hn⟩
end AmLs
