/-! THE CLAIM OUT OF ONE WALK OF THE LAW'S BODY. Your part is whole_start (and what it stands on); all else here is the same for every law, but numbers. -/
def R_law : String := "PuzzleBookLaw"
def lw_P (b : Addr) (xs : List Int32) (args : Array Value) (s : State) : Prop := args = #[.ref b] ∧ s.IntsAt b xs ∧ xs.length ≤ 2049 ∧ (Jvm.Cond.and given_1 narrow_1).before args s = true
def lw_Q (_ : Array Value) (s : State) (o : Outcome) (t : State) : Prop := o = .returned (some (.int 1)) ∧ Framed s o t [] 601024 7293000
def lw_Z (below : List Frame) (a : Array Value) (s : State) : State → Prop := fun t => ∃ o, t.status = .running ∧ Ended t below o ∧ lw_Q a s o t
/-- the law's own end, with 1 on the stack, nothing written that was there before, its room as the claim has it -/
theorem lw_ret {p : Program} {l : Launch} {e : Env} {s : State} {m : MethodId} {below : List Frame} {meth : Method} {c : Code} {b : Nat} (hx : p.tables.exec = Jvm.exec) (hb : c.code = code) (hr : meth.sig.returnType = ret) (hlocks : meth.locks = false) {pc : Nat} {H : Heap} {ls : Array Slot} (hdg : decode code pc = .ok (.ireturn, 1)) : W p l e room_1 s m #[Value.ref b] below meth c H [] 601024 7293000 (lw_Z below #[Value.ref b] s) (F0 m pc ls [.int 1]) := by
  intro T hT X
  obtain ⟨fs, hret, hrun, hended, hW, hframe⟩ := X.leave (v := some (.int 1)) (hlocks := hlocks) (fun h => by rw [hr] at h; cases h)
  have hmeth' : T.vm.method? m = some meth := X.method'
  refine ⟨T.setFrames fs, ?_, .returned (some (.int 1)), hrun, hended, rfl, ⟨_, rfl⟩, hW, hframe⟩
  jvm_step X.here [X.here.top, hx, hb, hdg, hmeth', hr, ret, narrow_b1]
  (try refine ⟨rfl, ?_⟩); (try refine ⟨rfl, ?_⟩)
  first | (intro acts; rw [hret _ acts rfl rfl rfl]) | rw [hret _ _ rfl rfl rfl]
  exact Steps.refl _
/-- what holds at the law's entry: the machine, the code, the tables' words (any of lw_tbl by 'hts w (by decide +kernel)'), the script of L ints xs at the cell b, what the Statement gives of the start (any of its parts by flat_of_before) -/
def lw_At (p : Program) (s : State) (m : MethodId) (meth : Method) (c : Code) (b L : Nat) (xs : Nat → Int32) : Prop :=
  p.tables.exec = Jvm.exec ∧ c.code = code ∧ meth.sig.returnType = ret ∧ c.maxLocals = 7 ∧ s.vm.findClass R_law = some m.cls ∧ (∀ w ∈ lw_tbl, w.before #[Value.ref b] s = true) ∧ va_X b L xs s s.heap ∧ b < s.heap.size ∧ meth.locks = false ∧ (Jvm.Cond.and given_1 narrow_1).before #[Value.ref b] s = true
set_option maxRecDepth 100000 in
set_option maxHeartbeats 4000000 in
/-- the law's loop -/
theorem law_loop {p : Program} {l : Launch} {e : Env} {s : State} {m : MethodId} {below : List Frame} {meth : Method} {c : Code} {b L0 : Nat} {xs : Nat → Int32} {D : va_G} {cB cI cL : ClassId} {b0 b1 b2 a0 a1 a2 a3 m0 m1 m2 m3 m4 m5 o0 : Nat} (hfl : l.flags = flags0) (C : lawC p s m meth c b L0 xs D cB cI cL) :
    ∀ (fu k : Nat) (H : Heap) (locs : List Loc) (ls : Array Slot), lawI s b D cB cI cL b0 b1 b2 a0 a1 a2 a3 m0 m1 m2 m3 m4 m5 o0 k H locs ls → 4 * k ≤ L0 → L0 - 4 * k < fu → W p l e room_1 s m #[Value.ref b] below meth c H locs (14 + k) (8909 + 6 * k) (lw_Z below #[Value.ref b] s) (F0 m 33 ls []) := by
  intro fu
  induction fu with
  | zero => intro k H locs ls I h4 hfu; exact absurd hfu (Nat.not_lt_zero _)
  | succ fu ih =>
    intro k H locs ls I h4 hfu
    obtain ⟨hx, hb, hml, hr, hlocks, hown, htb, hX, hbl, hL0, hK, hSp⟩ := id C
    obtain ⟨n, L, fd, fc, op, tn, eb, ec, L', tn', eb', ec', th, ov, J, hP, hD, hS, hl⟩ := id I
    have hbA : ¬ (fun q => s.heap.size ≤ q) b := Nat.not_le.mpr hbl
    refine lv_iload hx hb dL_law_33 (lv_at hl 0 rfl) ?_
    refine lv_aload_n hx hb dL_law_35 rfl (lv_at hl 1 rfl) ?_
    refine va_slen hx hb hX hbl hbA hS dL_law_36 ?_
    refine lv_iconst (v := nI 4) hx hb dL_law_37 (by decide +kernel) ?_
    refine lv_isub hx hb dL_law_38 ?_
    refine jb_gt (a := ((1 + 4 * k : Nat) : Int)) (b := (L0 : Int) - 4) hx hb (nI_toInt (by omega)) (pk_sub_toInt (a := L0) (b := 4) (by omega) (by decide)) dL_law_39 (tgt := 461) (by decide) (fun h => ?_) (fun h => ?_)
    · refine lv_iconst (v := 1) hx hb dL_law_461 (by decide +kernel) ?_
      refine va_forget hS.2.2 ?_
      refine W.widen (k := 601024) (n := 7293000) (by omega) (by omega) ?_
      exact lw_ret hx hb hr hlocks dL_law_462
    · have h9 : 4 * k + 5 ≤ L0 := by omega
      have kk : ∀ (H : Heap) (locs : List Loc) (ls : Array Slot), lawI s b D cB cI cL b0 b1 b2 a0 a1 a2 a3 m0 m1 m2 m3 m4 m5 o0 k H locs ls → W p l e room_1 s m #[Value.ref b] below meth c H locs (14 + (k + 1)) (8909 + 6 * (k + 1)) (lw_Z below #[Value.ref b] s) (F0 m 455 ls []) := by
        intro H locs ls I
        obtain ⟨n, L, fd, fc, op, tn, eb, ec, L', tn', eb', ec', th, ov, J, hP, hD, hS, hl⟩ := I
        refine lv_iinc (v := nI (1 + 4 * (k + 1))) (lv' := [(4, .int (nI (1 + 4 * (k + 1)))), (0, .ref b), (1, .ref b0), (2, .ref m0), (3, .ref o0)]) hx hb dL_law_455 hl (k := 0) rfl ((nI_add _ 4).trans (congrArg nI (by omega))) (by decide) rfl (fun ls hl => ?_)
        refine lv_goto (tgt := 33) hx hb dL_law_458 (by decide) ?_
        exact ih (k + 1) H locs ls ⟨n, L, fd, fc, op, tn, eb, ec, L', tn', eb', ec', th, ov, J, hP, hD, hS, hl⟩ (by omega) (by omega)
      refine lv_aload_n hx hb dL_law_42 rfl (lv_at hl 1 rfl) ?_
      refine lv_iload hx hb dL_law_43 (lv_at hl 0 rfl) ?_
      refine va_sld hx hb hX hbl hbA hS (i := nI (1 + 4 * k)) (vp_in_nI (by omega) (by omega)) dL_law_45 ?_
      refine lv_as (y := xs (1 + 4 * k)) (by rw [nI_clamp (by omega)]) ?_
      refine lv_bipush (v := nI 15) hx hb dL_law_46 (by decide +kernel) ?_
      refine lv_iand hx hb dL_law_48 ?_
      obtain ⟨j, hj, ej⟩ := pk_andE (xs (1 + 4 * k)) (m := nI 15) 4 (by decide +kernel)
      refine lv_as (y := nI j) ej ?_
      rcases (show j = 0 ∨ j = 1 ∨ j = 2 ∨ j = 3 ∨ j = 4 ∨ j = 5 ∨ j = 6 ∨ j = 7 ∨ j = 8 ∨ j = 9 ∨ j = 10 ∨ j = 11 ∨ 12 ≤ j by omega) with rfl | rfl | rfl | rfl | rfl | rfl | rfl | rfl | rfl | rfl | rfl | rfl | hj2
      · exact lv_tableIn hx hb (x := nI 0) dL_law_49 (by decide +kernel) (by decide +kernel) (off := 63) (by decide +kernel) (tgt := 112) (by decide) (arm_0 C I h9 kk)
      · exact lv_tableIn hx hb (x := nI 1) dL_law_49 (by decide +kernel) (by decide +kernel) (off := 88) (by decide +kernel) (tgt := 137) (by decide) (arm_1 C I h9 kk)
      · exact lv_tableIn hx hb (x := nI 2) dL_law_49 (by decide +kernel) (by decide +kernel) (off := 113) (by decide +kernel) (tgt := 162) (by decide) (arm_2 C I h9 kk)
      · exact lv_tableIn hx hb (x := nI 3) dL_law_49 (by decide +kernel) (by decide +kernel) (off := 150) (by decide +kernel) (tgt := 199) (by decide) (arm_3 C I h9 kk)
      · exact lv_tableIn hx hb (x := nI 4) dL_law_49 (by decide +kernel) (by decide +kernel) (off := 187) (by decide +kernel) (tgt := 236) (by decide) (arm_4 C I h9 kk)
      · exact lv_tableIn hx hb (x := nI 5) dL_law_49 (by decide +kernel) (by decide +kernel) (off := 212) (by decide +kernel) (tgt := 261) (by decide) (arm_5 C I h9 kk)
      · exact lv_tableIn hx hb (x := nI 6) dL_law_49 (by decide +kernel) (by decide +kernel) (off := 237) (by decide +kernel) (tgt := 286) (by decide) (arm_6 C I h9 kk)
      · exact lv_tableIn hx hb (x := nI 7) dL_law_49 (by decide +kernel) (by decide +kernel) (off := 250) (by decide +kernel) (tgt := 299) (by decide) (arm_7 C I h9 kk)
      · exact lv_tableIn hx hb (x := nI 8) dL_law_49 (by decide +kernel) (by decide +kernel) (off := 299) (by decide +kernel) (tgt := 348) (by decide) (arm_8 C I h9 kk)
      · exact lv_tableIn hx hb (x := nI 9) dL_law_49 (by decide +kernel) (by decide +kernel) (off := 312) (by decide +kernel) (tgt := 361) (by decide) (arm_9 hfl C I h9 kk)
      · exact lv_tableIn hx hb (x := nI 10) dL_law_49 (by decide +kernel) (by decide +kernel) (off := 380) (by decide +kernel) (tgt := 429) (by decide) (arm_10 C I h9 kk)
      · exact lv_tableIn hx hb (x := nI 11) dL_law_49 (by decide +kernel) (by decide +kernel) (off := 393) (by decide +kernel) (tgt := 442) (by decide) (arm_11 C I h9 kk)
      · refine lv_tableOut hx hb dL_law_49 (Or.inr (by rw [nI_toInt (by omega)]; omega)) (tgt := 455) (by decide) ?_
        refine W.widen (k := 14 + (k + 1)) (n := 8909 + 6 * (k + 1)) (by omega) (by omega) ?_
        exact kk H locs ls I
