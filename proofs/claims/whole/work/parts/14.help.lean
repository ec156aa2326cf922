/-! 14: the law's own two helpers: cell, byteAt -/
abbrev ty3 (cB cI cL : ClassId) : List (ClassId × FieldType) := [(cB, .byte), (cI, .int), (cL, .long)]
/-- a book, and the law's row of one long -/
abbrev oW (b0 b1 b2 a0 a1 a2 a3 o0 : Nat) (cB cI cL : ClassId) (n : Nat) (L : Lg) (fd : Nat → Nat) (fc op tn : Nat) (eb : Nat → Nat) (ec : Nat) (ov : Nat → Int64) : va_W := bW b0 b1 b2 a0 a1 a2 a3 cB cI n L fd fc op tn eb ec ++ [(o0, .inl (cL, 1, .inr (.inl ov)))]
/-- the words of the law's byteAt -/
def wsLT : List Cond := wsL_byteAt ++ (.classLink RL 13 RJx00060 :: wsBT)
theorem inLT : ∀ w ∈ wsBT, w ∈ wsLT := fun w h => List.mem_append_right _ (List.mem_cons_of_mem _ h)
set_option maxRecDepth 20000 in
theorem gLT : GoodIn wsLT (wsV RL 7 RX1 yX1_byteAt wsX1_byteAt) := goodIn_sub (by decide +kernel) (by decide +kernel)
theorem inLT1 : ∀ w ∈ wsL_byteAt, w ∈ lw_tbl ∧ w.onTables = true ∧ w.keepsFace = true := by decide +kernel
theorem inLT2 : Cond.classLink RL 13 RJx00060 ∈ lw_tbl ∧ (Cond.classLink RL 13 RJx00060).onTables = true ∧ (Cond.classLink RL 13 RJx00060).keepsFace = true := by decide +kernel
/-- the words go with the tables -/
theorem payLT {args : Array Value} {s : State} (hts : ∀ w ∈ lw_tbl, w.before args s = true) : ∀ w ∈ wsLT, ∀ (a' : Array Value) (U : State), s.WarmedH U.vm → w.before a' U = true := by
  intro w hw a' U hW
  rcases List.mem_append.mp hw with h | h
  · exact fc_at hW (inLT1 w h).2.1 (inLT1 w h).2.2 (hts w (inLT1 w h).1)
  · rcases List.mem_cons.mp h with h | h
    · rw [h]; exact fc_at hW inLT2.2.1 inLT2.2.2 (hts _ inLT2.1)
    · exact payBT hts w h a' U hW
theorem payBT' {args : Array Value} {s : State} (hts : ∀ w ∈ wsLT, w.before args s = true) : ∀ w ∈ wsBT, ∀ (a' : Array Value) (U : State), s.WarmedH U.vm → w.before a' U = true := by
  intro w hw a' U hW
  have h0 := hts w (inLT w hw)
  rcases List.mem_append.mp hw with h | h
  · exact fc_at hW (inBT1 w h).2.1 (inBT1 w h).2.2 h0
  · rcases List.mem_cons.mp h with h | h
    · subst h; exact sr_at hW h0
    · exact fc_at hW (inBT3 w h).2.1 (inBT3 w h).2.2 h0
/-- a start with the exception's statics -/
def lP (av : List Value) (D : va_G) (w : va_W) (tys : List (ClassId × FieldType)) (sz : Nat) : Array Value → State → Prop := va_Pc av (fun U => U.heap.size = sz ∧ va_P D vwCl w U.heap ∧ va_K D vwCl tys U ∧ va_D (fun _ => True) w ∧ spOK U)
theorem lP_blind {av : List Value} {D : va_G} {w : va_W} {tys : List (ClassId × FieldType)} {sz : Nat} : FrameBlind (lP av D w tys sz) := by
  intro a U g mk q
  obtain ⟨q0, q1, qP, qK, qD, qS⟩ := q
  exact ⟨q0, q1, qP, va_K.moved (u := U) (U := U.calling g mk a) (Vm.Alike.refl U.vm) qK, qD, spOK_call qS g mk a⟩
/-- the head of a method with an exception table -/
theorem met_l {l : Launch} {y : MethodName} {ws ws' : List Cond} {rm : Room} {cc : ByteArray} {maxL : Nat} {ret : Option FieldType} {hh : List (Nat × Nat × Nat × Nat)} {av : List Value} {D : va_G} {w w1 : va_W} {tys : List (ClassId × FieldType)} {sz mc ms : Nat} {r : Int32} (hy : plainName y.cls = true) (hw : ws = .codeWith y cc maxL ret hh :: ws') (hlen : (lg_sl av).length ≤ maxL)
    (body : ∀ (p : Program) (e : Env) (s : State) (m : MethodId) (below : List Frame) (meth : Method) (c : Code), p.tables.exec = Jvm.exec → c.code = cc → c.maxLocals = maxL → meth.sig.returnType = ret → meth.locks = false → s.vm.findClass y.cls = some m.cls → (c.exceptionTable.toList.map (fun h => (h.startPc, h.endPc, h.handlerPc, h.catchType)) = hh) → (∀ x ∈ ws, x.before av.toArray s = true) → va_P D vwCl w s.heap → va_K D vwCl tys s → ∀ A : Nat → Prop, va_D A w → (∀ q : Nat, s.heap.size ≤ q → A q) → va_S A s.heap s.heap [] → spOK s → ∀ ls : Array Slot, lv_has ls maxL (lv_args 0 av) →
      W p l e rm s m av.toArray below meth c s.heap [] 0 0 (MQ below (wQi r D w1 A) av.toArray s mc ms A) (F0 m 0 ls [])) : Met l y ws rm (lP av D w tys sz) (wQi r D w1 (va_A w sz)) mc ms (va_A w sz) := by
  refine va_MetW (cc := cc) (maxL := maxL) (ret := ret) (hh := hh) hy hw ?_
  intro p e s m args below meth c s₁ B hml hv
  obtain ⟨rfl, hsz, hP, hK, hD0, hSp⟩ := hv
  subst hsz
  have hts := atoms_spec (ws := ws) B.pre
  obtain ⟨m9, meth9, c9, hn9, hm9, hc9, -, -, hex, -⟩ := Cond.codeWith_spec (hts (.codeWith y cc maxL ret hh) (by rw [hw]; exact List.mem_cons_self))
  cases B.named.symm.trans hn9
  cases B.method.symm.trans hm9
  cases (Stand.of_body B).code.symm.trans hc9
  have hl := lv_entry av hlen
  rw [lg_entry_eq]
  exact body p e s m below meth c B.exec B.bytes hml B.returns B.notSynchronized (findClass_of_methodNamed B.named) hex hts hP hK _ (hD0.self (sz := s.heap.size)) (fun q h => Or.inr h) va_S.rf hSp _ hl
set_option maxRecDepth 100000 in
set_option maxHeartbeats 4000000 in
/-- the law's byteAt, where the byte is there: 0, and the byte in the row -/
theorem c_L_byteAt (l : Launch) (D : va_G) (b0 b1 b2 a0 a1 a2 a3 o0 : Nat) (cB cI cL : ClassId) (n : Nat) (L : Lg) (fd : Nat → Nat) (fc op tn : Nat) (eb : Nat → Nat) (ec : Nat) (ov : Nat → Int64) (bk i sz : Nat) (hn : n ≤ 64) (hg : ∀ j, L.1 j < 256) (h1 : bk < n) (h2 : i < 64) : Met l yL_byteAt wsLT ({ frames := 8, cells := 0, slots := 0, locals := 122 }) (lP [.ref b0, .int (nI bk), .int (nI i), .ref o0] D (oW b0 b1 b2 a0 a1 a2 a3 o0 cB cI cL n L fd fc op tn eb ec ov) (ty3 cB cI cL) sz) (wQi (nI 0) D (oW b0 b1 b2 a0 a1 a2 a3 o0 cB cI cL n L fd fc op tn eb ec (vp_updL ov 0 (lN (L.1 (64 * bk + i))))) (va_A (oW b0 b1 b2 a0 a1 a2 a3 o0 cB cI cL n L fd fc op tn eb ec ov) sz)) 0 0 (va_A (oW b0 b1 b2 a0 a1 a2 a3 o0 cB cI cL n L fd fc op tn eb ec ov) sz) := by
  refine met_l (by decide) rfl (Nat.le_of_ble_eq_true rfl) ?_
  intro p e s m below meth c hx hb hml hr hlocks hown hex hts hP hK A hD hA hS hSp ls hl
  have hown : s.vm.findClass RL = some m.cls := hown
  have hl : lv_has ls 5 [(0, .ref b0), (1, .int (nI bk)), (2, .int (nI i)), (3, .ref o0)] := hl
  have hK2 : va_K D vwCl (ty2 cB cI) s := hK.sub [0, 1] rfl
  refine lv_aload_n hx hb dL_byteAt_0 rfl (lv_at hl 3 rfl) ?_
  refine lv_iconst (v := nI 0) hx hb dL_byteAt_1 (by decide +kernel) ?_
  refine lv_aload_n hx hb dL_byteAt_2 rfl (lv_at hl 0 rfl) ?_
  refine lv_iload_n hx hb dL_byteAt_3 rfl (lv_at hl 1 rfl) ?_
  refine lv_iload_n hx hb dL_byteAt_4 rfl (lv_at hl 2 rfl) ?_
  refine rd_V (As := [.int (nI bk), .int (nI i)]) (rest := [.int (nI 0), .ref o0]) ⟨hx, hb, hml, hown, hts⟩ (c_X1_byteAt l D b0 b1 b2 a0 a1 a2 a3 cB cI n L fd fc op tn eb ec bk i hn hg h1 h2) (cwV 2 hts gLT rfl rfl rfl (by decide +kernel) ⟨Nat.le_of_ble_eq_true rfl, Nat.le_of_ble_eq_true rfl⟩) hK2 hP [0, 1, 2, 3, 4, 5, 6] rfl (ci := 2) rfl rfl (q0 := 0) rfl rfl hl.1 rfl (Nat.le_of_ble_eq_true rfl) dL_byteAt_5 ⟨Nat.zero_le _, Nat.zero_le _⟩ (fun r hr9 => ?_)
  subst hr9
  have g9 := hg (64 * bk + i)
  refine lv_i2l (v := lN (L.1 (64 * bk + i))) hx hb dL_byteAt_8 (nI_l (by omega)) ?_
  refine va_last hx hb hK hP hD hS 7 2 rfl rfl (i := nI 0) (vp_in_nI (by decide) (by decide)) dL_byteAt_9 (fun H locs hP hD hS => ?_)
  rw [show (nI 0).toNatClampNeg = 0 from by decide +kernel] at hP hD
  refine lv_goto (tgt := 17) hx hb dL_byteAt_10 (by decide) ?_
  refine lv_iconst (v := nI 0) hx hb dL_byteAt_17 (by decide +kernel) ?_
  exact rt_wi hx hb hr hlocks hP hD hS dL_byteAt_18 rfl
set_option maxRecDepth 100000 in
set_option maxHeartbeats 4000000 in
/-- the law's byteAt, where the byte isn't there: 1 -/
theorem t_L_byteAt (l : Launch) (hfl : l.flags = flags0) (D : va_G) (b0 b1 b2 a0 a1 a2 a3 o0 : Nat) (cB cI cL : ClassId) (n : Nat) (L : Lg) (fd : Nat → Nat) (fc op tn : Nat) (eb : Nat → Nat) (ec : Nat) (ov : Nat → Int64) (bv iv : Int32) (bz iz : Int) (sz : Nat) (hn : n ≤ 64) (h1 : bv.toInt = bz) (h2 : iv.toInt = iz) (hno : ¬ (0 ≤ bz ∧ bz < (n : Int) ∧ 0 ≤ iz ∧ iz < 64)) : Met l yL_byteAt wsLT ({ frames := 8, cells := 1, slots := 6, locals := 122 }) (lP [.ref b0, .int bv, .int iv, .ref o0] D (oW b0 b1 b2 a0 a1 a2 a3 o0 cB cI cL n L fd fc op tn eb ec ov) (ty3 cB cI cL) sz) (wQi (nI 1) D (oW b0 b1 b2 a0 a1 a2 a3 o0 cB cI cL n L fd fc op tn eb ec ov) (va_A (oW b0 b1 b2 a0 a1 a2 a3 o0 cB cI cL n L fd fc op tn eb ec ov) sz)) 1 6 (va_A (oW b0 b1 b2 a0 a1 a2 a3 o0 cB cI cL n L fd fc op tn eb ec ov) sz) := by
  refine met_l (by decide) rfl (Nat.le_of_ble_eq_true rfl) ?_
  intro p e s m below meth c hx hb hml hr hlocks hown hex hts hP hK A hD hA hS hSp ls hl
  have hown : s.vm.findClass RL = some m.cls := hown
  have hl : lv_has ls 5 [(0, .ref b0), (1, .int bv), (2, .int iv), (3, .ref o0)] := hl
  have hK2 : va_K D vwCl (ty2 cB cI) s := hK.sub [0, 1] rfl
  refine lv_aload_n hx hb dL_byteAt_0 rfl (lv_at hl 3 rfl) ?_
  refine lv_iconst (v := nI 0) hx hb dL_byteAt_1 (by decide +kernel) ?_
  refine lv_aload_n hx hb dL_byteAt_2 rfl (lv_at hl 0 rfl) ?_
  refine lv_iload_n hx hb dL_byteAt_3 rfl (lv_at hl 1 rfl) ?_
  refine lv_iload_n hx hb dL_byteAt_4 rfl (lv_at hl 2 rfl) ?_
  intro T hT X
  obtain ⟨x0, hx0⟩ : ∃ x0 : ExceptionTableEntry, c.exceptionTable.toList = [x0] ∧ x0.startPc = 0 ∧ x0.endPc = 10 ∧ x0.handlerPc = 13 ∧ x0.catchType = 13 := by
    cases hq : c.exceptionTable.toList with
    | nil => rw [hq] at hex; cases hex
    | cons a t =>
      rw [hq] at hex
      cases t with
      | nil =>
        simp only [List.map_cons, List.map_nil, List.cons.injEq, Prod.mk.injEq, and_true] at hex
        exact ⟨a, rfl, hex.1, hex.2.1, hex.2.2.1, hex.2.2.2⟩
      | cons b u => simp at hex
  obtain ⟨hsp, e1, e2, e3, e4⟩ := hx0
  have hPs : va_P D vwCl (bW b0 b1 b2 a0 a1 a2 a3 cB cI n L fd fc op tn eb ec) s.heap := hP.sub [0, 1, 2, 3, 4, 5, 6] rfl
  obtain ⟨cellB, hcB, hoB, hclB⟩ := va_recv (ci := 2) (q0 := 0) hK2 hPs rfl rfl
  obtain ⟨x, ce, U, X2, hce1, hce2, hce3, hsz2, hkeep, hst⟩ := th_call X hx (own := RL) (C := RX1) (index := 7) (y := yX1_byteAt) (bytes := cX1_byteAt) (maxL := 3) (ret := some .int) hown (hts (.methodLink RL 7 yX1_byteAt) (by decide +kernel)) (hts (.instanceMethod yX1_byteAt) (by decide +kernel)) (hts (.selects RX1 yX1_byteAt yX1_byteAt) (by decide +kernel)) (hts (.code yX1_byteAt cX1_byteAt 3 (some .int)) (by decide +kernel)) (hts (.initialized RX1) (by decide +kernel)) ⟨by decide +kernel, by decide +kernel⟩
    (t_X1_byteAt l hfl D b0 b1 b2 a0 a1 a2 a3 cB cI n L fd fc op tn eb ec bv iv bz iz hn h1 h2 hno) (fun a U g mk q => ⟨q.1, q.2.1, va_K.moved (u := U) (U := U.calling g mk a) (Vm.Alike.refl U.vm) q.2.2.1, spOK_call q.2.2.2 g mk a⟩) (payBT' hts) List.mem_cons_self (Nat.le_of_ble_eq_true rfl) (Nat.le_of_ble_eq_true rfl) (Nat.le_of_ble_eq_true rfl) (Nat.le_of_ble_eq_true rfl)
    (by rw [hT]; exact hcB) hoB hclB (g := F0 m 5 ls [.int iv, .int bv, .ref b0, .int (nI 0), .ref o0]) rfl (by rw [hml]; exact hl.1) (argsL := [.int bv, .int iv]) (rest := [.int (nI 0), .ref o0]) (fun sig hsig => by
      have h9 : parseMethodDescriptor yX1_byteAt.desc = some sig := hsig
      have h8 : (parseMethodDescriptor yX1_byteAt.desc).map (fun d => d.parameters.length) = some 2 := by decide +kernel
      rw [h9] at h8
      exact (Option.some.inj h8).symm) rfl (lv_room (Nat.le_of_ble_eq_true rfl)) (by rw [hb]; exact dL_byteAt_5)
    (fun vm₁ hW₁ => ⟨rfl, by rw [show (T.setVm vm₁).heap = s.heap from hT]; exact hPs, va_K.moved hW₁.alike hK2, spOK_old hSp (show (Cond.initialized "java/lang/Throwable").before #[] s = true from hts (.initialized "java/lang/Throwable") (by decide +kernel)) hW₁ (fun q _ => by rw [show (T.setVm vm₁).heap = s.heap from hT])⟩)
  obtain ⟨vm', X3, st3⟩ := th_catch X2 x (g := F0 m 5 ls [.int (nI 0), .ref o0]) rfl (own := RL) (name := RJx00060) hown hsp (by simp only [covers, e1, e2]; decide) (by rw [e4]; decide) (by rw [e4]; exact hts (.classLink RL 13 RJx00060) (by decide +kernel)) hce3 hce1 hce2
  have hP3 : va_P D vwCl (oW b0 b1 b2 a0 a1 a2 a3 o0 cB cI cL n L fd fc op tn eb ec ov) U.heap := hP.kept (fun k q hq => by
    have hlt := (hP k q hq).lt
    rw [hkeep q.1 (by rw [hT]; exact hlt), hT])
  have K : W p l e ({ frames := 8, cells := 1, slots := 6, locals := 122 }) s m [Value.ref b0, .int bv, .int iv, .ref o0].toArray below meth c U.heap [] 1 6 (MQ below (wQi (nI 1) D (oW b0 b1 b2 a0 a1 a2 a3 o0 cB cI cL n L fd fc op tn eb ec ov) A) [Value.ref b0, .int bv, .int iv, .ref o0].toArray s 1 6 A) (F0 m 13 ls [.ref x]) := by
    refine lv_astore (lv' := [(4, .ref x), (0, .ref b0), (1, .int bv), (2, .int iv), (3, .ref o0)]) hx hb dL_byteAt_13 hl (by decide) rfl (fun ls hl => ?_)
    refine lv_iconst (v := nI 1) hx hb dL_byteAt_15 (by decide +kernel) ?_
    exact W.iret hx hb hr (fun t ht _ => ⟨⟨nI 1, (), rfl, rfl, by rw [ht]; exact hP3, hD⟩, by rw [ht]; rw [← hT]; exact hsz2, fun q hq _ => by rw [ht, hkeep q (by rw [hT]; exact hq), hT]⟩) (fun q h => absurd h List.not_mem_nil) dL_byteAt_16 hlocks
  obtain ⟨t, k1, k2⟩ := K (U.setVm vm') rfl X3
  refine ⟨t, hst.trans (st3 _ ?_), k2⟩
  rw [e3]
  exact k1
