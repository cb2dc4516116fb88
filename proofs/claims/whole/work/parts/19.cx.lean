/-! the world of a run -/
def am_isN : Cond → Bool
  | .fieldLinkNest .. => true
  | .methodLinkNest .. => true
  | _ => false
def am_TN : List Cond := lw_tbl.filter am_isN
theorem am_TN_warm {s U : State} (hW : s.WarmedH U.vm) {w : Cond} (hw : am_isN w = true) (h : va_Nw w s) : va_Nw w U := by
  cases w <;> first | exact va_Nw.warmF hW h | exact va_Nw.warmM hW h | cases hw
theorem am_TN_same {u U : State} (h : u.vm = U.vm) {w : Cond} (hw : am_isN w = true) (hz : va_Nw w u) : va_Nw w U := by
  cases w <;> first | exact va_Nw.same rfl h hz | cases hw
def am_tyl (aC : Nat → ClassId) : List (ClassId × FieldType) := [(aC 0, .int), (aC 1, .byte), (aC 2, .boolean), (aC 3, .object "BrotliWords$Code"), (aC 4, .object "BrotliWords$Blocks")]
abbrev am_A (z : Nat) : Nat → Prop := fun q => z ≤ q
/-- a row that lay there before: its first L places, and what its length reads as -/
def am_Xt (b L : Nat) (xs : Nat → Int32) (U : State) (H : Heap) : Prop := ∃ scr : Cell, H[b]? = some scr ∧ U.isArrayOf scr .int ∧ scr.vm ≠ .unknown ∧ L ≤ scr.slots.size ∧ scr.slots.size.toInt32 = Int32.ofNat L ∧ ∀ j : Nat, j < L → scr.slots[j]? = some (.int (xs j))
section AmCx
variable (D : va_G) (aC : Nat → ClassId) (xa : Nat → Nat) (uv : Nat → Value) (X : Nat → Nat → Int32) (XL : Nat → Nat) (z : Nat)
def am_Cx (s : State) (H : Heap) : Prop := va_K D vwCl (am_tyl aC) s ∧ (∀ t, 200 ≤ t → t < 212 → am_Xt (xa t) (XL t - 1) (X t) s H ∧ xa t < z) ∧
  (∀ a, ((200 ≤ a ∧ a < 211) ∨ a = 220 ∨ a = 221) → va_Z (am_xd a).1 (am_xd a).2.1 (am_xd a).2.2 (bif Nat.blt a 220 then .ref (xa a) else uv a) (am_A z) s H) ∧ z ≤ H.size ∧ (∀ a, uv a = .null ∨ ∃ b, uv a = .ref b) ∧
  (∀ w ∈ am_TN, va_Nw w s) ∧ va_AO "BrotliWords$Code" s ∧ va_AO "BrotliWords$Blocks" s
theorem am_X_moved {b L : Nat} {xs : Nat → Int32} {u U : State} {H H1 : Heap} (hvm : u.vm.Alike U.vm) (hq : H1[b]? = H[b]?) (h : am_Xt b L xs u H) : am_Xt b L xs U H1 := by
  obtain ⟨scr, h1, h2, h3, h4, h5, h6⟩ := h
  exact ⟨scr, by rw [hq]; exact h1, State.isArrayOf_alike hvm h2, h3, h4, h5, h6⟩
theorem am_Cx_to {s U : State} {H H1 : Heap} (hW : s.WarmedH U.vm) (hq : ∀ q, q < z → H1[q]? = H[q]?) (hz : z ≤ H1.size) (h : am_Cx D aC xa uv X XL z s H) : am_Cx D aC xa uv X XL z U H1 := by
  obtain ⟨h1, h2, h3, h4, h5, h6, h7, h8⟩ := h
  refine ⟨va_K.moved hW.alike h1, fun t a b => ?_, fun a ha => ?_, hz, h5, fun w hw => am_TN_warm hW (List.mem_filter.mp hw).2 (h6 w hw), va_AO.moved hW.alike h7, va_AO.moved hW.alike h8⟩
  · obtain ⟨x1, x2⟩ := h2 t a b
    exact ⟨am_X_moved hW.alike (hq _ x2) x1, x2⟩
  · exact ((h3 a ha).moved hW.alike).kept (fun q _ hA => hq q (Nat.not_le.mp hA))
theorem am_Cx_blind {U : State} {g : JFrame} {mk : MethodId} {a : Array Value} {H : Heap} (h : am_Cx D aC xa uv X XL z U H) : am_Cx D aC xa uv X XL z (U.calling g mk a) H := by
  obtain ⟨h1, h2, h3, h4, h5, h6, h7, h8⟩ := h
  have hal : U.vm.Alike (U.calling g mk a).vm := Vm.Alike.refl U.vm
  refine ⟨va_K.moved hal h1, fun t a b => ?_, fun a ha => (h3 a ha).moved hal, h4, h5, fun w hw => am_TN_same (u := U) (U := U.calling g mk a) rfl (List.mem_filter.mp hw).2 (h6 w hw), va_AO.moved hal h7, va_AO.moved hal h8⟩
  obtain ⟨x1, x2⟩ := h2 t a b
  exact ⟨am_X_moved hal rfl x1, x2⟩
def am_Hr (f : Nat → Nat) (σ : am_H) (H : Heap) : Prop := va_P D vwCl (am_ws aC xa uv f σ) H ∧ va_D (am_A z) (am_ws aC xa uv f σ) ∧ am_wf σ
def am_oc (f : Nat → Nat) (r : am_O × am_H) (o : Outcome) : Prop := match r.1 with
  | .inl none => o = .returned none
  | .inl (some v) => o = .returned (some (am_cv xa uv f r.2 v)) ∧ am_gv r.2 v ∧ am_nl v = true
  | .inr q => o = .threw (f (ah_ad r.2 q.1 q.2)) ∧ q.1 = 12 ∧ am_gq r.2 q
def am_Q (f0 : (Nat → Nat) × am_H) (n0 : Nat) (r : am_O × am_H) : Array Value → State → Outcome → State → Prop := fun _ st o t =>
  (∃ f', (am_ex f0.2 r.2 ∧ ∀ k, k < n0 → f' k = f0.1 k) ∧ am_Hr D aC xa uv z f' r.2 t.heap ∧ am_oc xa uv f' r o) ∧ va_F (am_A z) st t
end AmCx
/-- the method y runs here -/
def am_G (y : Nat) (p : Program) (R : Room) (s : State) (m : MethodId) (args : Array Value) (meth : Method) (c : Code) : Prop :=
  p.tables.exec = Jvm.exec ∧ c.code = am_by y ∧ c.maxLocals = am_ml y ∧ meth.locks = false ∧ (∀ w ∈ am_T, w.before args s = true) ∧ ∃ q, am_md[y]? = some q ∧ meth.sig.returnType = q.2.2.1 ∧ s.vm.findClass (am_ow q.2.2.2.1) = some m.cls ∧ meth.name = q.1.name ∧ q.2.2.2.2.1 ≤ R.frames ∧ q.2.2.2.2.2.1 ≤ R.locals ∧
    c.exceptionTable.toList.map (fun h => (h.startPc, h.endPc, h.handlerPc, h.catchType)) = q.2.2.2.2.2.2
/-- cells and places grow -/
theorem am_le_run (ak : Nat → Nat) (X : Nat → Nat → Int32) (XL : Nat → Nat) (code : Nat → List (Nat × am_Row)) (ml : Nat → Nat) : ∀ (n y pc : Nat) (ls st : List am_V) (σ : am_H) (r : am_O × am_H), am_run ak X XL code ml n y pc ls st σ = some r → ah_n σ ≤ ah_n r.2 ∧ ah_sl σ ≤ ah_sl r.2
  | 0, _, _, _, _, _, _, h => by simp [am_run] at h
  | n + 1, y, pc, ls, st, σ, r, h => by
    rcases am_dst ak X XL pc ls st σ (am_look (code y) pc) _ _ r h with ⟨h0, -⟩ | ⟨p, l, s, h9, h0, h1, -⟩ | ⟨y2, as, q, h0, h1, -⟩ | ⟨y2, as, q, p, l, s, h1, h2, -⟩
    · rw [h0]; exact ⟨Nat.le_refl _, Nat.le_refl _⟩
    · have h3 := am_le_run ak X XL code ml n _ _ _ _ _ _ h1
      rcases h0 with h0 | ⟨t, k, h0⟩
      · have e1 : ah_n h9 = ah_n σ := congrArg (fun b : am_B => b.1) h0
        have e2 : ah_sl h9 = ah_sl σ := congrArg (fun b : am_B => b.2.2.2.2.1) h0
        rw [e1, e2] at h3
        exact h3
      · have e1 : ah_n h9 = ah_n σ + 1 := congrArg (fun b : am_B => b.1) h0
        have e2 : ah_sl h9 = ah_sl σ + k := congrArg (fun b : am_B => b.2.2.2.2.1) h0
        omega
    · have h3 := am_le_run ak X XL code ml n _ _ _ _ _ _ h1
      rw [h0]; exact h3
    · have h3 := am_le_run ak X XL code ml n _ _ _ _ _ _ h1
      have h4 := am_le_run ak X XL code ml n _ _ _ _ _ _ h2
      omega
