/-! 12: PuzzleBook.byteAt: it answers, or it throws (laid by wip/whole/gen/gen_throw.py) -/
theorem zq_ref {C n d : String} {A : Nat → Prop} {U : State} (h : va_Zq C n d A U U.heap) (args : Array Value) : (Cond.isRef (.static C n d)).before args U = true := by
  rcases h with ⟨cf, kf, fi, f, a, cell, h1, h2, h3, h4, h5, h6, h7, h8⟩ | ⟨t, cf, kf, fi, f, a, cell, h1, h2, h3, h4, h5, h6, h7, h8⟩
  · have hv := Term.static_eval (args := args) (first := U) (o := none) (idx := []) h1 h2 h4 h5 h6 h7
    simp [Cond.before, Cond.holds, Cond.value, hv]
  · have hv := Term.static_eval (args := args) (first := U) (o := none) (idx := []) h1 h2 h4 h5 h6 h7
    simp [Cond.before, Cond.holds, Cond.value, hv]
theorem ls_old {C n d : String} {s U : State} {a a' : Array Value} (h : (Cond.laysStatic C n d).before a s = true) (hW : s.WarmedH U.vm) (hk : ∀ q : Nat, q < s.heap.size → U.heap[q]? = s.heap[q]?) : (Cond.laysStatic C n d).before a' U = true := by
  obtain ⟨c, k, i, f, ad, cell, h1, h2, h3, h4, h5, h6, h7, h8, h9⟩ := Cond.laysStatic_spec h
  obtain ⟨k', hi', he⟩ := State.fieldFound?_setVm hW.alike h2
  have g1 : U.vm.findClass C = some c := by rw [hW.alike.findClass]; exact h1
  have g2 : U.fieldFound? C n d = some (c, k', i, f) := hi'
  have g3 : U.heap[ad]? = some cell := by rw [hk ad (Array.getElem?_eq_some_iff.mp h5).1]; exact h5
  have g4 : k'.statics = some ad := by rw [he]; exact h4
  have g5 : k'.staticTypes[f.slot]? = some f.type := by rw [he]; exact h9
  simp [Cond.before, Cond.holds, Cond.value, g1, g2, g3, g4, g5, h3, h6, h7, h8]
/-- what the tables' words alone don't say of the exception's making: two statics that hold a reference or null -/
def spB : List Cond := [.laysStatic "java/lang/Throwable" "UNASSIGNED_STACK" "[Ljava/lang/StackTraceElement;", .laysStatic "java/lang/Throwable" "SUPPRESSED_SENTINEL" "Ljava/util/List;", .isRef (.static "java/lang/Throwable" "UNASSIGNED_STACK" "[Ljava/lang/StackTraceElement;"), .isRef (.static "java/lang/Throwable" "SUPPRESSED_SENTINEL" "Ljava/util/List;")]
def spOK (U : State) : Prop := ∀ w ∈ spB, ∀ a : Array Value, w.before a U = true
theorem spOK_old {s U : State} (h : spOK s) (hini : (Cond.initialized "java/lang/Throwable").before #[] s = true) (hW : s.WarmedH U.vm) (hk : ∀ q : Nat, q < s.heap.size → U.heap[q]? = s.heap[q]?) : spOK U := by
  have key : ∀ C n d, (Cond.laysStatic C n d).before #[] s = true → (Cond.initialized C).before #[] s = true → (Cond.isRef (.static C n d)).before #[] s = true → ∀ a : Array Value, (Cond.isRef (.static C n d)).before a U = true := by
    intro C n d h1 h2 h3 a
    have z := va_Zqof (A := fun q => s.heap.size ≤ q) h1 h2 h3 (fun q hq => Nat.not_le.mpr hq)
    have z2 := (z.moved hW.alike).kept (H1 := U.heap) (fun q hq _ => hk q hq)
    exact zq_ref z2 a
  intro w hw a
  have h' := fun w hw => h w hw #[]
  rcases List.mem_cons.mp hw with rfl | hw
  · exact ls_old (h' _ List.mem_cons_self) hW hk
  rcases List.mem_cons.mp hw with rfl | hw
  · exact ls_old (h' _ (List.mem_cons_of_mem _ List.mem_cons_self)) hW hk
  rcases List.mem_cons.mp hw with rfl | hw
  · exact key _ _ _ (h' _ List.mem_cons_self) hini (h' _ (List.mem_cons_of_mem _ (List.mem_cons_of_mem _ List.mem_cons_self))) a
  rcases List.mem_cons.mp hw with rfl | hw
  · exact key _ _ _ (h' _ (List.mem_cons_of_mem _ List.mem_cons_self)) hini (h' _ (List.mem_cons_of_mem _ (List.mem_cons_of_mem _ (List.mem_cons_of_mem _ List.mem_cons_self)))) a
  · cases hw
theorem spOK_call {U : State} (h : spOK U) (g : JFrame) (mk : MethodId) (x : Array Value) : spOK (U.calling g mk x) := by
  intro w hw a
  have h0 := h w hw a
  rcases List.mem_cons.mp hw with rfl | hw
  · exact h0
  rcases List.mem_cons.mp hw with rfl | hw
  · exact h0
  rcases List.mem_cons.mp hw with rfl | hw
  · exact h0
  rcases List.mem_cons.mp hw with rfl | hw
  · exact h0
  · cases hw
def upB : List String := ["java/lang/IndexOutOfBoundsException", "java/lang/RuntimeException", "java/lang/Exception"]
/-- the tables' words on the exception's making -/
def wTb : List Cond := (Bundle.ownAtoms RX1 114 RJx00060 upB).filter Cond.onTables
theorem own_of : ∀ a ∈ Bundle.ownAtoms RX1 114 RJx00060 upB, a ∈ wTb ∨ a ∈ spB := by decide +kernel
/-- the words of byteAt where it throws -/
def wsBT : List Cond := wsX1_byteAt ++ (.stringRef RX1 112 "there is no such block or byte" :: wTb)
theorem sr_at {args a' : Array Value} {s U : State} (hW : s.WarmedH U.vm) {cls text : String} {index : Nat} (h : (Cond.stringRef cls index text).before args s = true) : (Cond.stringRef cls index text).before a' U = true := by
  have h1 := Cond.stringRef_warmed hW h
  exact h1
theorem fc_at {args a' : Array Value} {s U : State} (hW : s.WarmedH U.vm) {c : Cond} (h1 : c.onTables = true) (h2 : c.keepsFace = true) (h : c.before args s = true) : c.before a' U = true := by
  have h3 := Cond.before_shiftedFace (State.Shifted.of_warmed hW) c h2 h
  rw [Cond.onTables_vm (A' := a') (U' := U) U.vm c h1, State.setVm_self] at h3
  exact h3
theorem inBT1 : ∀ w ∈ wsX1_byteAt, w ∈ lw_tbl ∧ w.onTables = true ∧ w.keepsFace = true := by decide +kernel
theorem inBT3 : ∀ w ∈ wTb, w ∈ lw_tbl ∧ w.onTables = true ∧ w.keepsFace = true := by decide +kernel
theorem inBT2 : Cond.stringRef RX1 112 "there is no such block or byte" ∈ lw_tbl := by decide +kernel
/-- the words go with the tables -/
theorem payBT {args : Array Value} {s : State} (hts : ∀ w ∈ lw_tbl, w.before args s = true) : ∀ w ∈ wsBT, ∀ (a' : Array Value) (U : State), s.WarmedH U.vm → w.before a' U = true := by
  intro w hw a' U hW
  rcases List.mem_append.mp hw with h | h
  · exact fc_at hW (inBT1 w h).2.1 (inBT1 w h).2.2 (hts w (inBT1 w h).1)
  · rcases List.mem_cons.mp h with h | h
    · rw [h]; exact sr_at hW (hts _ inBT2)
    · exact fc_at hW (inBT3 w h).2.1 (inBT3 w h).2.2 (hts w (inBT3 w h).1)
/-- what a throw leaves -/
def qT (st : State) (o : Outcome) (t : State) : Prop := ∃ (x : Addr) (ce : Cell), o = .threw x ∧ st.heap.size ≤ x ∧ t.heap[x]? = some ce ∧ ce.vm.isStatics = false ∧ st.vm.findClass RJx00060 = some ce.cls ∧ st.WarmedH t.vm ∧ st.sameButNew ({ t with vm := st.vm } : State) [] 1 6
set_option maxRecDepth 100000 in
set_option maxHeartbeats 4000000 in
/-- byteAt(block, i), of a byte that is there -/
theorem c_X1_byteAt (l : Launch) (D : va_G) (b0 b1 b2 a0 a1 a2 a3 : Nat) (cB cI : ClassId) (n : Nat) (L : Lg) (fd : Nat → Nat) (fc : Nat) (op : Nat) (tn : Nat) (eb : Nat → Nat) (ec : Nat) (bk i : Nat) (hn : n ≤ 64) (hg : ∀ j, L.1 j < 256) (h1 : bk < n) (h2 : i < 64) : Met l yX1_byteAt wsX1_byteAt ({ frames := 2, cells := 0, slots := 0, locals := 44 }) (rP [.ref b0, .int (nI bk), .int (nI i)] D (bW b0 b1 b2 a0 a1 a2 a3 cB cI n L fd fc op tn eb ec) (ty2 cB cI)) (vp_Si (fun r => r = nI (L.1 (64 * bk + i)))) 0 0 (fun _ => False) := by
  refine met_r (by decide) rfl (Nat.le_of_ble_eq_true rfl) ?_
  intro p e s m below meth c hx hb hml hr hlocks hown hts hP hK ls hl
  have hown : s.vm.findClass RX1 = some m.cls := hown
  have hinX1 : ∀ w ∈ u_ws RX1 TX1 7, w ∈ wsX1_byteAt := by decide +kernel
  have hinX0 : ∀ w ∈ u_ws RX0 TX0 5, w ∈ wsX1_byteAt := by decide +kernel
  have hl : lv_has ls 3 [(0, .ref b0), (1, .int (nI bk)), (2, .int (nI i))] := hl
  refine lv_aload_n hx hb dX1_byteAt_0 rfl (lv_at hl 0 rfl) ?_
  refine va_get (D := D) (ci := 2) (v := .ref a0) (C := RX1) (T := TX1) (N := 7) hx hb hts hinX1 hown hK hP 0 rfl rfl 0 (by decide) (hts (.fieldLink RX1 28 "PuzzleBook" "store" "LPuzzleBook$Store;") (by decide +kernel)) (fun _ h9 => h9) rfl dX1_byteAt_1 ?_
  refine lv_iload_n hx hb dX1_byteAt_4 rfl (lv_at hl 1 rfl) ?_
  refine lv_iload_n hx hb dX1_byteAt_5 rfl (lv_at hl 2 rfl) ?_
  refine rd_V (As := [.int (nI bk), .int (nI i)]) (rest := []) ⟨hx, hb, hml, hown, hts⟩ (c_X0_has l D a0 a1 a2 a3 cB cI n L (nI bk) (nI i) ((bk : Nat) : Int) ((i : Nat) : Int) hn (nI_toInt (by omega)) (nI_toInt (by omega))) (cwV 2 hts gX1_byteAt_X0_has rfl rfl rfl (by decide +kernel) ⟨Nat.le_of_ble_eq_true rfl, Nat.le_of_ble_eq_true rfl⟩) hK hP [3, 4, 5, 6] rfl (ci := 1) rfl rfl (q0 := 3) rfl rfl hl.1 rfl (Nat.le_of_ble_eq_true rfl) dX1_byteAt_6 ⟨Nat.zero_le _, Nat.zero_le _⟩ (fun r1 hr1 => ?_)
  subst hr1
  refine lv_as (y := nI 1) (congrArg nI (b01_t (by omega))) ?_
  refine j0_ne (tgt := 22) hx hb (nI_toInt (n := 1) (by decide)) dX1_byteAt_9 (by decide) (fun c2 => ?_) (fun c2 => absurd c2 (by omega))
  refine lv_aload_n hx hb dX1_byteAt_22 rfl (lv_at hl 0 rfl) ?_
  refine va_get (D := D) (ci := 2) (v := .ref a0) (C := RX1) (T := TX1) (N := 7) hx hb hts hinX1 hown hK hP 0 rfl rfl 0 (by decide) (hts (.fieldLink RX1 28 "PuzzleBook" "store" "LPuzzleBook$Store;") (by decide +kernel)) (fun _ h9 => h9) rfl dX1_byteAt_23 ?_
  refine lv_iload_n hx hb dX1_byteAt_26 rfl (lv_at hl 1 rfl) ?_
  refine lv_iload_n hx hb dX1_byteAt_27 rfl (lv_at hl 2 rfl) ?_
  refine rd_V (As := [.int (nI bk), .int (nI i)]) (rest := []) ⟨hx, hb, hml, hown, hts⟩ (c_X0_read l D a0 a1 a2 a3 cB cI n L bk i hn hg h1 h2) (cwV 2 hts gX1_byteAt_X0_read rfl rfl rfl (by decide +kernel) ⟨Nat.le_of_ble_eq_true rfl, Nat.le_of_ble_eq_true rfl⟩) hK hP [3, 4, 5, 6] rfl (ci := 1) rfl rfl (q0 := 3) rfl rfl hl.1 rfl (Nat.le_of_ble_eq_true rfl) dX1_byteAt_28 ⟨Nat.zero_le _, Nat.zero_le _⟩ (fun r3 hr3 => ?_)
  subst hr3
  exact rt_i hx hb hr hlocks dX1_byteAt_31 rfl
set_option maxRecDepth 20000 in
theorem gBT_has : GoodIn wsBT (wsV RX1 97 RX0 yX0_has wsX0_has) := goodIn_sub (by decide +kernel) (by decide +kernel)
set_option maxRecDepth 100000 in
set_option maxHeartbeats 4000000 in
/-- byteAt(block, i), of a byte that isn't there: it throws -/
theorem t_X1_byteAt (l : Launch) (hfl : l.flags = flags0) (D : va_G) (b0 b1 b2 a0 a1 a2 a3 : Nat) (cB cI : ClassId) (n : Nat) (L : Lg) (fd : Nat → Nat) (fc : Nat) (op : Nat) (tn : Nat) (eb : Nat → Nat) (ec : Nat) (bv iv : Int32) (bz iz : Int) (hn : n ≤ 64) (h1 : bv.toInt = bz) (h2 : iv.toInt = iz) (hno : ¬ (0 ≤ bz ∧ bz < (n : Int) ∧ 0 ≤ iz ∧ iz < 64)) : MetFree l yX1_byteAt (headSpec wsBT ({ frames := 7, cells := 1, slots := 6, locals := 100 })) (va_Pc [.ref b0, .int bv, .int iv] (fun U => va_P D vwCl (bW b0 b1 b2 a0 a1 a2 a3 cB cI n L fd fc op tn eb ec) U.heap ∧ va_K D vwCl (ty2 cB cI) U ∧ spOK U)) (fun _ _ _ _ _ => True) (fun _ st o t => qT st o t) := by
  refine MetFree.of_bodyS (code := cX1_byteAt) (maxLocals := 3) (ret := some .int) (by decide) ?_ ?_
  · intro args s m h hnn
    obtain ⟨meth, c, q1, q2, q3, q4, q5, q6, -, -⟩ := Cond.code_spec hnn (atoms_spec (ws := wsBT) h _ List.mem_cons_self)
    exact ⟨meth, c, q1, q2, q3, q4, q5, q6⟩
  intro p e s m args below meth c s₁ B hml0 hv _
  obtain ⟨rfl, hP, hK, hZ⟩ := hv
  have hh0 : s₁.heap = s.heap := by rw [B.state]; rfl
  have hx := B.exec
  have hb := B.bytes
  have hlocks := B.notSynchronized
  have hts := atoms_spec (ws := wsBT) B.pre
  have hcw := hts (.code yX1_byteAt cX1_byteAt 3 (some .int)) List.mem_cons_self
  have hml : c.maxLocals = 3 := B.maxLocals_eq hcw
  have hown : s.vm.findClass RX1 = some m.cls := findClass_of_methodNamed B.named
  have hinX1 : ∀ w ∈ u_ws RX1 TX1 7, w ∈ wsBT := by decide +kernel
  have hinX0 : ∀ w ∈ u_ws RX0 TX0 5, w ∈ wsBT := by decide +kernel
  have K : W p l e ({ frames := 7, cells := 1, slots := 6, locals := 100 }) s m [.ref b0, .int bv, .int iv].toArray below meth c s.heap [] 0 0 (fun t => ∃ o, t.status = .running ∧ Ended t below o ∧ qT s o t) (entryFrame m [.ref b0, .int bv, .int iv].toArray 3) := by
    have hl := lv_entry [.ref b0, .int bv, .int iv] (n := 3) (Nat.le_of_ble_eq_true rfl)
    rw [lg_entry_eq]
    generalize (lg_sl [.ref b0, .int bv, .int iv] ++ List.replicate (3 - (lg_sl [.ref b0, .int bv, .int iv]).length) Slot.unset).toArray = ls at hl ⊢
    have hl : lv_has ls 3 [(0, .ref b0), (1, .int bv), (2, .int iv)] := hl
    refine lv_aload_n hx hb dX1_byteAt_0 rfl (lv_at hl 0 rfl) ?_
    refine va_get (D := D) (ci := 2) (v := .ref a0) (C := RX1) (T := TX1) (N := 7) hx hb hts hinX1 hown hK hP 0 rfl rfl 0 (by decide) (hts (.fieldLink RX1 28 "PuzzleBook" "store" "LPuzzleBook$Store;") (by decide +kernel)) (fun _ h9 => h9) rfl dX1_byteAt_1 ?_
    refine lv_iload_n hx hb dX1_byteAt_4 rfl (lv_at hl 1 rfl) ?_
    refine lv_iload_n hx hb dX1_byteAt_5 rfl (lv_at hl 2 rfl) ?_
    refine rd_V (As := [.int bv, .int iv]) (rest := []) ⟨hx, hb, hml, hown, hts⟩ (c_X0_has l D a0 a1 a2 a3 cB cI n L bv iv bz iz hn h1 h2) (cwV 2 hts gBT_has rfl rfl rfl (by decide +kernel) ⟨Nat.le_of_ble_eq_true rfl, Nat.le_of_ble_eq_true rfl⟩) hK hP [3, 4, 5, 6] rfl (ci := 1) rfl rfl (q0 := 3) rfl rfl hl.1 rfl (Nat.le_of_ble_eq_true rfl) dX1_byteAt_6 ⟨Nat.zero_le _, Nat.zero_le _⟩ (fun r1 hr1 => ?_)
    subst hr1
    refine lv_as (y := nI 0) (congrArg nI (b01_f hno)) ?_
    refine j0_ne (tgt := 22) hx hb (nI_toInt (n := 0) (by decide)) dX1_byteAt_9 (by decide) (fun c2 => absurd c2 (by omega)) (fun c2 => ?_)
    intro T hT X
    have htr : e.platform.stackTraces = false := Launch.traces_off hfl X.admits
    obtain ⟨vm₁, cX, kX, hfX, hkX, -, -, X₁, st1⟩ := X.newCold hx (own := RX1) (C := RJx00060) (index := 110) (n := 6) hown (hts (.classLink RX1 110 RJx00060) (by decide +kernel)) (hts (.instantiable RJx00060 6) (by decide +kernel)) (hts (.initialized RJx00060) (by decide +kernel)) (g := F0 m 12 ls []) rfl (by rw [hb]; exact dX1_byteAt_12) (Nat.le_of_ble_eq_true rfl) (Nat.le_of_ble_eq_true rfl)
    have hcellA : ((T.setVm vm₁).pushCell { cls := cX, slots := kX.instanceTypes.map defaultValue, vm := .none }).heap[T.heap.size]? = some (freshCell cX kX) := State.heap_pushCell_size _ _
    generalize (T.setVm vm₁).pushCell { cls := cX, slots := kX.instanceTypes.map defaultValue, vm := .none } = T1 at X₁ st1 hcellA
    obtain ⟨ks, cfs, is, sa, -, -, -, -, -, hev⟩ := Cond.stringRef_spec hown (hts (.stringRef RX1 112 "there is no such block or byte") (by decide +kernel))
    have st2 := X₁.ldcString hx hown (hts (.stringRef RX1 112 "there is no such block or byte") (by decide +kernel)) hev (g := F0 m 16 ls [.ref T.heap.size, .ref T.heap.size]) rfl (by rw [hb]; exact dX1_byteAt_16)
    obtain ⟨U, hsteps, hrun, hend, hW, hsame, ce, hce, K9⟩ := X₁.ctorThrowS hx htr (own := RX1) (cls := RJx00060) (names := upB) (ic := 114) hown (by decide +kernel) (by decide +kernel)
      (fun y hy => (own_of y hy).elim (fun h => hts y (List.mem_append_right _ (List.mem_cons_of_mem _ h))) (fun h => hZ y h _))
      (fun y hy => by cases hy) hfX hkX hcellA (by rw [hT]; exact Nat.le_refl _) (msg := .ref sa) rfl
      (g := F0 m 18 ls [.ref sa, .ref T.heap.size, .ref T.heap.size]) rfl (by rw [hml]; exact hl.1) rfl rfl (rest := []) rfl
      (by rw [hb]; exact dX1_byteAt_18) (by rw [hb]; exact dX1_byteAt_21) (covers_of_empty (B.noHandlers hcw) _) (by decide) (Nat.le_of_ble_eq_true rfl) hlocks
    refine ⟨U, st1 _ ?_, .threw T.heap.size, hrun, hend, T.heap.size, ce, rfl, by rw [hT]; exact Nat.le_refl _, hce, by rw [K9.vm]; rfl, K9.cls, hW, hsame⟩
    show Steps p.tables e below (T1.setTop (F0 m 15 ls [.ref T.heap.size])) _
    jvm_step X₁.here [X₁.here.top, hx, hb, dX1_byteAt_15, Value.category]
    exact st2 _ hsteps
  obtain ⟨t, q1, o, q2, q3, q4⟩ := K s₁ hh0 (Stand.of_body B)
  exact ⟨t, o, q1, q2, q3, q4⟩
