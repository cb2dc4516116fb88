/-! THE CLAIM OUT OF ONE WALK OF THE LAW'S BODY. Your part is whole_start (and what it stands on); all else here is the same for every law, but numbers. -/
def R_law : String := "BrotliWordsLaw"
def lw_P (b : Addr) (xs : List Int32) (args : Array Value) (s : State) : Prop := args = #[.ref b] ∧ s.IntsAt b xs ∧ xs.length ≤ 384 ∧ (Jvm.Cond.and given_1 narrow_1).before args s = true
def lw_Q (_ : Array Value) (s : State) (o : Outcome) (t : State) : Prop := o = .returned (some (.int 1)) ∧ Framed s o t [] 600128 7301098
def lw_Z (below : List Frame) (a : Array Value) (s : State) : State → Prop := fun t => ∃ o, t.status = .running ∧ Ended t below o ∧ lw_Q a s o t
/-- the law's own end, with 1 on the stack, nothing written that was there before, its room as the claim has it -/
theorem lw_ret {p : Program} {l : Launch} {e : Env} {s : State} {m : MethodId} {below : List Frame} {meth : Method} {c : Code} {b : Nat} (hx : p.tables.exec = Jvm.exec) (hb : c.code = code) (hr : meth.sig.returnType = ret) (hlocks : meth.locks = false) {pc : Nat} {H : Heap} {ls : Array Slot} (hdg : decode code pc = .ok (.ireturn, 1)) : W p l e room_1 s m #[Value.ref b] below meth c H [] 600128 7301098 (lw_Z below #[Value.ref b] s) (F0 m pc ls [.int 1]) := by
  intro T hT X
  obtain ⟨fs, hret, hrun, hended, hW, hframe⟩ := X.leave (v := some (.int 1)) (hlocks := hlocks) (fun h => by rw [hr] at h; cases h)
  have hmeth' : T.vm.method? m = some meth := X.method'
  refine ⟨T.setFrames fs, ?_, .returned (some (.int 1)), hrun, hended, rfl, ⟨_, rfl⟩, hW, hframe⟩
  jvm_step X.here [X.here.top, hx, hb, hdg, hmeth', hr, ret, narrow_b1]
  (try refine ⟨rfl, ?_⟩); (try refine ⟨rfl, ?_⟩)
  first | (intro acts; rw [hret _ acts rfl rfl rfl]) | rw [hret _ _ rfl rfl rfl]
  exact Steps.refl _
/-- what holds at the law's entry: the machine, the code, the tables' words (any of lw_tbl by 'hts w (by decide +kernel)'), the script of L ints xs at the cell b, what the Statement gives of the start (any of its parts by flat_of_before) -/
def lw_At (p : Program) (s : State) (m : MethodId) (meth : Method) (c : Code) (b L : Nat) (xs : Nat → Int32) : Prop :=
  p.tables.exec = Jvm.exec ∧ c.code = code ∧ meth.sig.returnType = ret ∧ c.maxLocals = 4 ∧ s.vm.findClass R_law = some m.cls ∧ (∀ w ∈ lw_tbl, w.before #[Value.ref b] s = true) ∧ va_X b L xs s s.heap ∧ b < s.heap.size ∧ meth.locks = false ∧ (Jvm.Cond.and given_1 narrow_1).before #[Value.ref b] s = true ∧ meth.name = "law" ∧ c.exceptionTable.isEmpty = true
/-- from the entry, for every script of at most 384 ints, the law comes to its end with true -/
theorem whole_start {p : Program} {e : Env} {s : State} {m : MethodId} {below : List Frame} {meth : Method} {c : Code} (l : Launch) {b L : Nat} {xs : Nat → Int32} (hL : L ≤ 384) (C0 : lw_At p s m meth c b L xs) : W p l e room_1 s m #[Value.ref b] below meth c s.heap [] 0 0 (lw_Z below #[Value.ref b] s) (entryFrame m ([Value.ref b] : List Value).toArray 4) := by
  obtain ⟨hx, hb, hr, hml, hown, hts, hX, hbl, hlocks, hgv, hnm, hexc⟩ := id C0
  obtain ⟨D, aC, xa, uv, hC, hxa⟩ := start_Cx hL hts hX hbl hgv
  have hts' : ∀ w ∈ am_T, w.before #[Value.ref b] s = true := fun w hw => hts w (List.mem_filter.mp hw).1
  have htab : c.exceptionTable.toList.map (fun h => (h.startPc, h.endPc, h.handlerPc, h.catchType)) = [] := by
    have h9 : c.exceptionTable = #[] := Array.isEmpty_iff.mp hexc
    rw [h9]; rfl
  have hby : am_by 264 = code := rfl
  have hG : am_G 264 p room_1 s m #[Value.ref b] meth c := ⟨hx, by rw [hby]; exact hb, by rw [lw_ml]; exact hml, hlocks, hts', _, lw_md, hr, hown, hnm, by decide, by decide, htab⟩
  obtain ⟨n, ι', hrun⟩ := lw_run (L := L) (xs := xs) hL
  have hsim := am_simS (D := D) (aC := aC) (xa := xa) (uv := uv) (X := bm_X32 (L, xs)) (XL := bm_XLn (L, xs)) (z := s.heap.size) am_rows_ok l
  have hrc : room_1.cells = 600128 := rfl
  have hrs : room_1.slots = 7301098 := rfl
  have n4 := am_h4_n
  have n2 := lw_h2
  -- the loop
  have w18 : am_Wat D aC xa uv s.heap.size p l e room_1 s m #[Value.ref b] below meth c (fun _ => 0, am_h0) 0 0 (lw_Z below #[Value.ref b] s) 264 18 [av_r 211 0, av_r 11 0, av_r 13 0, av_i 0] [] am_h4 := fun H locs lsA f hF => by
    obtain ⟨a1, a2, a3, a4, a5, a6, a7, a8, a9⟩ := hF
    have hF' : am_Fc D aC xa uv s.heap.size s (fun _ => 0, am_h0) 0 0 264 [av_r 211 0, av_r 11 0, av_r 13 0, av_i 0] [] (bm_h ι0) H locs lsA f := ⟨sw_h4 a1, a2, am_ls_cong xa uv (fun v _ => sw_cv lw_ad v) a3, a4, fun v hv => lw_gv (a5 v hv), fun v hv => lw_gv (a6 v hv), ⟨fun x hx9 => ⟨lw_gq (a7.1 x hx9).1, fun h9 => by rw [lw_ad]; exact (a7.1 x hx9).2 h9⟩, fun k hk => by omega⟩, Nat.zero_le _, Nat.zero_le _⟩
    have w := hsim n 264 18 _ [] (bm_h ι0) _ hrun (by omega) p e room_1 s m #[Value.ref b] below meth c H locs lsA f (fun _ => 0, am_h0) 0 0 hG hC hF' (by show 382 - 0 ≤ room_1.cells; rw [hrc]; omega) (by show 207954 - 0 ≤ room_1.slots; rw [hrs]; omega)
    have e1 : ah_n am_h4 - 0 = ah_n (bm_h ι0) - 0 := by rw [n4.1, lw_e1]
    have e2 : ah_sl am_h4 - 0 = ah_sl (bm_h ι0) - 0 := by rw [n4.2, lw_e2]
    rw [e1, e2]
    have w : W p l e room_1 s m #[Value.ref b] below meth c H locs (ah_n (bm_h ι0) - 0) (ah_sl (bm_h ι0) - 0) _ (F0 m 18 lsA []) := w
    show W p l e room_1 s m #[Value.ref b] below meth c H locs (ah_n (bm_h ι0) - 0) (ah_sl (bm_h ι0) - 0) (lw_Z below #[Value.ref b] s) (F0 m 18 lsA [])
    refine am_Wmono (fun t ht => ?_) w
    obtain ⟨o, t1, t2, ⟨⟨f', -, -, hoc⟩, -⟩, L', ⟨f1, f2⟩, hL'⟩ := ht
    have ho : o = .returned (some (.int 1)) := (show o = .returned (some (am_cv xa uv f' (bm_h ι') (av_i 1))) ∧ am_gv (bm_h ι') (av_i 1) ∧ am_nl (av_i 1) = true from hoc).1
    obtain ⟨g1, g2, g3, g4, g5, g6⟩ := f2
    refine ⟨o, t1, t2, ho, ⟨_, ho⟩, f1, g1, g2, Nat.le_trans g3 (by show _ ≤ s.heap.size + 600128; exact Nat.add_le_add_left (show 382 - 0 ≤ 600128 by omega) _), g4, Nat.le_trans g5 (show 207954 - 0 ≤ 7301098 by omega), fun a c9 hc9 => ?_⟩
    obtain ⟨c', q1, q2, q3, q4⟩ := g6 a c9 hc9
    exact ⟨c', q1, q2, q3, fun i _ => q4 i (fun hm => Nat.not_le.mpr (Array.getElem?_eq_some_iff.mp hc9).1 (hL' _ hm))⟩
  -- what stands ahead of it
  have w17 := am_t_istore (x := 0) (r9 := []) (ls := [av_r 211 0, av_r 11 0, av_r 13 0, av_l 0]) hG hC lx_r17 (by show 3 < 4; omega) w18
  have w16 := am_t_iconst hG hC lx_r16 w17
  have w15 := am_t_astore (t := 13) (i := 0) (r9 := []) (ls := [av_r 211 0, av_r 11 0, av_l 0, av_l 0]) (by omega) hG hC lx_r15 (by show 2 < 4; omega) w16
  have w12 := am_t_init (i := 0) (rest := [av_r 13 0]) (hsim 4000) hG hC lx_r12 rfl rfl (by show 1 ≤ 4; omega) am_run2 (by rw [n4.1, hrc]; omega) (by rw [n4.2, hrs]; omega) w15
  have w11 := am_t_dup (t := 13) (i := 0) (r9 := []) hG hC lx_r11 w12
  have w8 : am_Wat D aC xa uv s.heap.size p l e room_1 s m #[Value.ref b] below meth c (fun _ => 0, am_h0) 0 0 (lw_Z below #[Value.ref b] s) 264 8 [av_r 211 0, av_r 11 0, av_l 0, av_l 0] [] am_h2 := by
    refine am_t_new hG hC lx_r8x (by rw [hrc]; omega) (by rw [hrs]; omega) ?_
    rw [am_cnt2]
    exact w11
  have w7 := am_t_astore (t := 11) (i := 0) (r9 := []) (ls := [av_r 211 0, av_l 0, av_l 0, av_l 0]) (by omega) hG hC lx_r7x (by show 1 < 4; omega) w8
  have w4 := am_t_init (i := 0) (rest := [av_r 11 0]) (hsim 4000) hG hC lx_r4 rfl rfl (by show 1 ≤ 4; omega) am_run1 (by rw [hrc]; omega) (by rw [hrs]; omega) w7
  have w3 := am_t_dup (t := 11) (i := 0) (r9 := []) hG hC lx_r3 w4
  have w0 : am_Wat D aC xa uv s.heap.size p l e room_1 s m #[Value.ref b] below meth c (fun _ => 0, am_h0) 0 0 (lw_Z below #[Value.ref b] s) 264 0 [av_r 211 0, av_l 0, av_l 0, av_l 0] [] am_h0 := am_t_new hG hC lx_r0 (by show 0 + 1 - 0 ≤ room_1.cells; rw [hrc]; omega) (by show 0 + 5 - 0 ≤ room_1.slots; rw [hrs]; omega) w3
  -- the entry
  have hl := lv_entry ([.ref b]) (n := 4) (Nat.le_of_ble_eq_true rfl)
  rw [lg_entry_eq]
  generalize (lg_sl ([.ref b]) ++ List.replicate (4 - (lg_sl ([.ref b])).length) Slot.unset).toArray = lsA at hl ⊢
  have hl : lv_has lsA 4 [(0, .ref b)] := hl
  have ews : am_ws aC xa uv (fun _ => 0) am_h0 = [] := rfl
  refine w0 s.heap [] lsA (fun _ => 0) ⟨⟨(fun k q h => by rw [ews] at h; simp at h), ⟨(fun i j p q h => by rw [ews] at h; simp at h), (fun k q h => by rw [ews] at h; simp at h)⟩, fun k hk => absurd hk (Nat.not_lt_zero k)⟩, va_S.rf, ⟨hl.1, hl.2.1, fun i v hi hn => ?_⟩, by rw [lw_ml]; rfl, fun v hv => ?_, (fun v hv => by cases hv), ⟨am_ex_rf _, fun k hk => by omega⟩, Nat.zero_le _, Nat.zero_le _⟩
  · have hi4 : i < 4 := (List.getElem?_eq_some_iff.mp hi).1
    have : i = 0 ∨ i = 1 ∨ i = 2 ∨ i = 3 := by omega
    rcases this with rfl | rfl | rfl | rfl
    · cases hi
      rw [am_cvx (by omega) (by omega), hxa]
      exact hl.2.2 _ List.mem_cons_self
    · cases hi; cases hn
    · cases hi; cases hn
    · cases hi; cases hn
  · simp only [List.mem_cons, List.not_mem_nil, or_false] at hv
    rcases hv with rfl | rfl | rfl | rfl
    · exact Or.inl ⟨by decide, fun q => absurd q.1 (by decide)⟩
    · trivial
    · trivial
    · trivial
set_option maxHeartbeats 4000000 in
theorem lw_walk (l : Launch) (b : Addr) (xs : List Int32) : MetFree l x (headSpec (Jvm.Cond.code x code maxLocals ret :: tables_1) room_1) (lw_P b xs) (fun _ _ _ _ _ => True) lw_Q := by
  refine MetFree.of_bodyS (code := code) (maxLocals := maxLocals) (ret := ret) (by decide) ?_ ?_
  · intro args s m h hn
    obtain ⟨meth, c, h1, h2, h3, h4, h5, h6, -, -⟩ := Cond.code_spec hn (atoms_spec (ws := Jvm.Cond.code x code maxLocals ret :: tables_1) h _ List.mem_cons_self)
    exact ⟨meth, c, h1, h2, h3, h4, h5, h6⟩
  · intro p e s m args below meth c s₁ B hml0 hP _
    obtain ⟨rfl, hx, hbd, hgv⟩ := hP
    obtain ⟨scr, harrAt, hlist, hof, hsmall⟩ := hx
    obtain ⟨hcb, hkn, -, -⟩ := State.arrayAt?_spec harrAt
    have hown : s.vm.findClass R_law = some m.cls := findClass_of_methodNamed B.named
    have hts0 : ∀ c ∈ (Jvm.Cond.code x code maxLocals ret :: tables_1), c.before #[Value.ref b] s = true := atoms_spec (ws := Jvm.Cond.code x code maxLocals ret :: tables_1) B.pre
    have hts : ∀ w ∈ lw_tbl, w.before #[Value.ref b] s = true := k2_hts_sels lw_privs (fun w hw => hts0 w (List.mem_cons_of_mem _ hw)) lw_privs_ok
    have hml : c.maxLocals = 4 := B.maxLocals_eq (hts0 _ List.mem_cons_self)
    have X₀ : Stand p l e room_1 s m #[Value.ref b] below meth c s₁ [] 0 0 := Stand.of_body B
    have hh0 : s₁.heap = s.heap := by rw [B.state]; rfl
    have hsz : scr.slots.size = xs.length := by rw [← Array.length_toList, hlist, List.length_map]
    have hval : ∀ j : Nat, j < xs.length → scr.slots[j]? = some (.int (xs.getD j 0)) := fun j hj => by
      rw [← Array.getElem?_toList, hlist]
      simp [hj]
    have hbl : b < s.heap.size := (Array.getElem?_eq_some_iff.mp hcb).1
    have hX : va_X b xs.length (fun j => xs.getD j 0) s s.heap := ⟨scr, hcb, hof, hkn, hsz, hval⟩
    have K : W p l e room_1 s m #[Value.ref b] below meth c s₁.heap [] 0 0 (lw_Z below #[Value.ref b] s) (entryFrame m ([Value.ref b] : List Value).toArray 4) := by
      rw [hh0]
      obtain ⟨meth2, c2, g1, g2, -, -, -, -, g7, -⟩ := Cond.code_spec B.named (hts0 _ List.mem_cons_self)
      cases B.method.symm.trans g1
      cases X₀.code.symm.trans g2
      exact whole_start l hbd ⟨B.exec, B.bytes, B.returns, hml, hown, hts, hX, hbl, B.notSynchronized, hgv, (name_of_methodNamed B.named B.method).1, g7⟩
    obtain ⟨t, a1, o, b1, b2, b3⟩ := K s₁ rfl X₀
    exact ⟨t, o, a1, b1, b2, b3⟩
theorem lw_pre_spec {args : Array Value} {s : State} (h : (Jvm.Cond.and given_1 narrow_1).before args s = true) (hr : rest_1_c.before args s = true) : ∃ (b : Addr) (xs : List Int32), lw_P b xs args s := by
  have hs := flat_of_before _ h
  have hq := flat_of_before _ hr
  have hc : (Cond.count 1).before args s = true := hs _ (by decide +kernel)
  have harr : (Cond.arrayOf (.arg 0) .int).before args s = true := hs _ (by decide +kernel)
  have hle : (Cond.le (.length (.arg 0)) (.int 384)).before args s = true := hs _ (by decide +kernel)
  have hlen : (Cond.isInt (.length (.arg 0))).before args s = true := hq _ (by decide +kernel)
  have hall : (Cond.all (.arg 0) (.isInt (.elem (.arg 0) (.index 0)))).before args s = true := hq _ (by decide +kernel)
  obtain ⟨b, xs, hb, hx⟩ := State.ints_of_pre rfl harr hlen hall
  have hsm : xs.length < 2 ^ 31 := hx.choose_spec.2.2.2
  have hev : (Term.length (.arg 0)).eval args s none [] s = some (.int xs.length.toInt32) := hx.length_eval hb
  have hv := Cond.le_ints hev (show (Term.int 384).eval args s none [] s = some (.int 384) from rfl)
  have hd : xs.length.toInt32 ≤ 384 := by
    simpa [Cond.before, Cond.holds, hv] using hle
  have hN : xs.length ≤ 384 := (Int32.ofNat_le_ofNat hsm (by decide)).mp (show Int32.ofNat xs.length ≤ Int32.ofNat 384 from hd)
  exact ⟨b, xs, Cond.one_arg hc (show args[0]? = some (.ref b) from hb), hx, hN, h⟩
theorem lw_comes (l : Launch) : Comes l x (Jvm.Cond.code x code maxLocals ret :: tables_1) room_1 (fun tb e args s => Calls_1 tb e args s ∧ rest_1 tb e args s ∧ Pre_1 tb e args s)
    (fun _ _ args s o t => lw_Q args s o t) := by
  intro p e ha hc hk s m args below hf hfit hheap happ hpre
  obtain ⟨b, xs, hP⟩ := lw_pre_spec hpre.2.2 hpre.2.1
  obtain ⟨k, o, h1, h2, h3, hQ⟩ := lw_walk l b xs p e ha hc hk s m args below hf ((Spec.applies_iff_loose hf).mp happ).1 hP trivial
  exact ⟨k, o, h1, h2, h3, hQ⟩
theorem lw_frame {s t : State} {o : Outcome} {args : Array Value} (h : Framed s o t [] 600128 7301098) :
    Framed s o t (fieldLocs frame_1_writes args s ++ arrayLocs frame_1_arrays args s ++ staticLocs frame_1_statics s) 600128 7301098 := h
theorem lw_limb (L : Cond) (hL : ∀ (args : Array Value) (s t : State), L.after args s (.returned (some (.int 1))) t = true) :
    ArmFor flags0 classFile x code maxLocals ret World_1 tables_1 room_1 Calls_1 rest_1 Pre_1
      (fun tb e a s o t => postC L tb e a s o t ∧ Framed s o t (fieldLocs frame_1_writes a s ++ arrayLocs frame_1_arrays a s ++ staticLocs frame_1_statics s) 600128 7301098) := by
  intro l _ _ _ p e ha hc hk s m args below hf hfit hheap happ hpre
  obtain ⟨k, o, h1, h2, h3, rfl, hF⟩ := lw_comes l p e ha hc hk s m args below hf hfit hheap happ hpre
  exact ⟨k, _, h1, h2, h3, hL args s _, lw_frame hF⟩
theorem i_vc : Claimed_1_1 ∧ Claimed_1_2 := ⟨lw_limb limb_1_1 (fun args s t => by simp [limb_1_1, Cond.after, Cond.holds, Cond.value]), lw_limb limb_1_2 (fun args s t => Cond.after_iff.mpr (by
  first | (rw [show limb_1_2 = Cond.eq .result (.int 1) from rfl, Cond.eq_ints (x := 1) (y := 1) rfl rfl]; simp; done) | (simp [limb_1_2, Cond.value, Term.eval]; done)))⟩
