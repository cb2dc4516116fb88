section AmSim
variable (D : va_G) (aC : Nat → ClassId) (xa : Nat → Nat) (uv : Nat → Value) (X : Nat → Nat → Int32) (XL : Nat → Nat) (z : Nat)
/-- the frame's part of what holds: heap, locals, stack; f0, n0, sl0: what stood when the method began -/
def am_Fc (s : State) (f0 : (Nat → Nat) × am_H) (n0 sl0 : Nat) (y : Nat) (ls st : List am_V) (σ : am_H) (H : Heap) (locs : List Loc) (lsA : Array Slot) (f : Nat → Nat) : Prop :=
  am_Hr D aC xa uv z f σ H ∧ va_S (am_A z) s.heap H locs ∧ am_ls xa uv f σ ls lsA ∧ ls.length = am_ml y ∧ am_gl σ ls ∧ am_gl σ st ∧ (am_ex f0.2 σ ∧ ∀ k, k < n0 → f k = f0.1 k) ∧ n0 ≤ ah_n σ ∧ sl0 ≤ ah_sl σ
/-- what is to be shown of a run of n steps -/
def am_Sim (l : Launch) (n : Nat) : Prop := ∀ (y pc : Nat) (ls st : List am_V) (σ : am_H) (r : am_O × am_H), am_run am_ak X XL am_code am_ml n y pc ls st σ = some r → y < 265 →
  ∀ (p : Program) (e : Env) (R : Room) (s : State) (m : MethodId) (args : Array Value) (below : List Frame) (meth : Method) (c : Code) (H : Heap) (locs : List Loc) (lsA : Array Slot) (f : Nat → Nat) (f0 : (Nat → Nat) × am_H) (n0 sl0 : Nat),
    am_G y p R s m args meth c → am_Cx D aC xa uv X XL z s s.heap → am_Fc D aC xa uv z s f0 n0 sl0 y ls st σ H locs lsA f → ah_n r.2 - n0 ≤ R.cells → ah_sl r.2 - sl0 ≤ R.slots →
    W p l e R s m args below meth c H locs (ah_n σ - n0) (ah_sl σ - sl0) (am_MQ below (am_Q D aC xa uv z f0 n0 r) args s (ah_n r.2 - n0) (ah_sl r.2 - sl0) (am_A z)) (F0 m pc lsA (st.map (am_cv xa uv f σ)))
theorem am_Fc_st {s : State} {f0 : (Nat → Nat) × am_H} {n0 sl0 y : Nat} {ls st st' : List am_V} {σ : am_H} {H : Heap} {locs : List Loc} {lsA : Array Slot} {f : Nat → Nat} (h : am_Fc D aC xa uv z s f0 n0 sl0 y ls st σ H locs lsA f) (hg : am_gl σ st') : am_Fc D aC xa uv z s f0 n0 sl0 y ls st' σ H locs lsA f := by
  obtain ⟨h1, h2, h3, h4, h5, h6, h7, h8, h9⟩ := h
  exact ⟨h1, h2, h3, h4, h5, hg, h7, h8, h9⟩
end AmSim
