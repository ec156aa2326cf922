/-! 15: the constructors (laid by wip/whole/gen/gen_init.py) -/
/-- so many blocks: held to 4 to 64 -/
def clN (z : Int) : Nat := if z < 4 then 4 else if 64 < z then 64 else z.toNat
theorem clN_in (z : Int) : 4 ≤ clN z ∧ clN z ≤ 64 := by
  unfold clN; split
  · omega
  · split <;> omega
theorem clN_mm {bv : Int32} {bz : Int} (h : bv.toInt = bz) : (if nI 4 < (if bv < nI 64 then bv else nI 64) then (if bv < nI 64 then bv else nI 64) else nI 4) = nI (clN bz) := by
  have e4 : (nI 4).toInt = 4 := by decide +kernel
  have e64 : (nI 64).toInt = 64 := by decide +kernel
  by_cases q : bz < 64
  · have hm : (if bv < nI 64 then bv else nI 64) = bv := if_pos (Int32.lt_iff_toInt_lt.mpr (by rw [h, e64]; exact q))
    rw [hm]
    by_cases q2 : 4 < bz
    · rw [if_pos (Int32.lt_iff_toInt_lt.mpr (by rw [h, e4]; exact q2))]
      apply Int32.toInt_inj.mp
      have hc : clN bz = bz.toNat := by unfold clN; rw [if_neg (by omega), if_neg (by omega)]
      rw [h, hc, nI_toInt (by omega)]; omega
    · rw [if_neg (fun z => q2 (by have := Int32.lt_iff_toInt_lt.mp z; rw [h, e4] at this; exact this))]
      have hc : clN bz = 4 := by
        unfold clN
        by_cases q3 : bz < 4
        · rw [if_pos q3]
        · rw [if_neg q3, if_neg (by omega)]; omega
      rw [hc]
  · have hm : (if bv < nI 64 then bv else nI 64) = nI 64 := if_neg (fun z => q (by have := Int32.lt_iff_toInt_lt.mp z; rw [h, e64] at this; exact this))
    rw [hm, if_pos (Int32.lt_iff_toInt_lt.mpr (by rw [e4, e64]; decide))]
    have hc : clN bz = 64 := by
      unfold clN
      rw [if_neg (by omega)]
      by_cases q3 : 64 < bz
      · rw [if_pos q3]
      · rw [if_neg q3]; omega
    rw [hc]
def L0 : Lg := (fun _ => 0, fun _ => 0, fun _ => 0, 0)
theorem ty_eq {D : va_G} {cl : List vw_C} {tys : List (ClassId × FieldType)} {U : State} (h : va_K D cl tys U) (i j : Nat) {a b : ClassId} (ha : tys[i]? = some (a, .int)) (hb : tys[j]? = some (b, .int)) : a = b := by
  have h1 := va_nm_int (h.2 i _ ha).2
  have h2 := va_nm_int (h.2 j _ hb).2
  exact Option.some.inj (h1.symm.trans h2)
theorem ty_eqB {D : va_G} {cl : List vw_C} {tys : List (ClassId × FieldType)} {U : State} (h : va_K D cl tys U) (i j : Nat) {a b : ClassId} (ha : tys[i]? = some (a, .byte)) (hb : tys[j]? = some (b, .byte)) : a = b := by
  have h1 := va_nm_byte (h.2 i _ ha).2
  have h2 := va_nm_byte (h.2 j _ hb).2
  exact Option.some.inj (h1.symm.trans h2)
theorem cellB0 (n : Nat) (cA : ClassId) : vp_cell cA (n, .inl (aB (fun _ => 0))) = arrV cA n (fun _ => defaultValue .byte) := by
  rw [vp_cell_i]
  have : (fun j => Value.int (aB (fun _ => 0) j)) = (fun _ : Nat => defaultValue .byte) := by funext j; show Value.int (bb 0) = _; rw [bb_0]; rfl
  rw [this]
theorem cellI0 (n : Nat) (cA : ClassId) : vp_cell cA (n, .inl (aI (fun _ => 0))) = arrV cA n (fun _ => defaultValue .int) := by
  rw [vp_cell_i]
  have : (fun j => Value.int (aI (fun _ => 0) j)) = (fun _ : Nat => defaultValue .int) := by funext j; show Value.int (nI 0) = _; rw [nI_0]; rfl
  rw [this]
/-- a constructor's head -/
theorem met_c {l : Launch} {y : MethodName} {ws ws' : List Cond} {rm : Room} {cc : ByteArray} {maxL : Nat} {ret : Option FieldType} {av : List Value} {D : va_G} {w : va_W} {tys : List (ClassId × FieldType)} {sz mc ms : Nat} {S : Type} {B : S → (Nat → Prop) → State → Prop} (hy : plainName y.cls = true) (hw : ws = .code y cc maxL ret :: ws') (hlen : (lg_sl av).length ≤ maxL) (hyn : y.name = "<init>")
    (body : ∀ (p : Program) (e : Env) (s : State) (m : MethodId) (below : List Frame) (meth : Method) (c : Code), p.tables.exec = Jvm.exec → c.code = cc → c.maxLocals = maxL → meth.sig.returnType = ret → meth.locks = false → meth.name = "<init>" → s.vm.findClass y.cls = some m.cls → (∀ x ∈ ws, x.before av.toArray s = true) → va_P D vwCl w s.heap → va_K D vwCl tys s → ∀ A : Nat → Prop, va_D A w → (∀ q : Nat, s.heap.size ≤ q → A q) → va_S A s.heap s.heap [] → ∀ ls : Array Slot, lv_has ls maxL (lv_args 0 av) →
      W p l e rm s m av.toArray below meth c s.heap [] 0 0 (MQ below (va_Qv (fun _ : S => True) (fun u t => B u A t) A) av.toArray s mc ms A) (F0 m 0 ls [])) : Met l y ws rm (wP av D w tys sz) (va_Qv (fun _ : S => True) (fun u t => B u (va_A w sz) t) (va_A w sz)) mc ms (va_A w sz) := by
  refine Met.ofW (cc := cc) (maxL := maxL) (ret := ret) hy hw ?_
  intro p e s m args below meth c s₁ B0 hml hv
  obtain ⟨rfl, hsz, hP, hK, hD0⟩ := hv
  subst hsz
  have hl := lv_entry av hlen
  rw [lg_entry_eq]
  exact body p e s m below meth c B0.exec B0.bytes hml B0.returns B0.notSynchronized ((name_of_methodNamed B0.named B0.method).1.trans hyn) (findClass_of_methodNamed B0.named) (atoms_spec (ws := ws) B0.pre) hP hK _ (hD0.self (sz := s.heap.size)) (fun q h => Or.inr h) va_S.rf _ hl
section CI
variable {p : Program} {l : Launch} {e : Env} {R : Room} {s : State} {m : MethodId} {args : Array Value} {below : List Frame} {meth : Method} {c : Code} {H : Heap} {locs : List Loc} {cells slots : Nat} {Q : State → Prop}
variable {y : MethodName} {bytes cc : ByteArray} {maxL nL n index pc mc ms : Nat} {ws : List Cond} {rm : Room} {Ts : List Cond} {own : String} {b : Addr} {As rest st0 : List Value} {ls : Array Slot} {D : va_G} {w wc wr : va_W} {tys : List (ClassId × FieldType)} {A : Nat → Prop}
/-- a constructor's call: the new object's world beside the others -/
theorem cr_I {S : Type} {B : S → (Nat → Prop) → State → Prop} {w1 : S → va_W} (S0 : CallFix p m c cc nL s args Ts own) (hM : Met l y ws rm (wP (.ref b :: As) D wc tys H.size) (va_Qv (fun _ : S => True) (fun u t => B u (va_A wc H.size) t) (va_A wc H.size)) mc ms (va_A wc H.size)) (cw : CallB R s args own index y bytes maxL none ws rm mc ms n ∧ y.name = "<init>" ∧ (Cond.instanceMethod y).before args s = true)
    (hK : va_K D vwCl tys s) (hP : va_P D vwCl w H) (hD : va_D A w) (hS : va_S A s.heap H locs) (hA : ∀ q : Nat, s.heap.size ≤ q → A q) (isC isR : List Nat) (hC : isC.map (fun i => w[i]?) = wc.map some) (hcn : va_nd isC = true) (hR : isR.map (fun i => w[i]?) = wr.map some) (hn1 : va_nd isR = true) (hdis : ∀ i ∈ isR, i ∉ isC)
    (hB : ∀ (u : S) (A' : Nat → Prop) (t : State), B u A' t → va_P D vwCl (w1 u) t.heap ∧ va_D A' (w1 u))
    (hn : As.length = n) (hsize : ls.size = nL) (hstack : st0 = As.reverse ++ .ref b :: rest) (hW : (rest.map fun v => v.category).sum ≤ 8) (hdg : decode cc pc = .ok (.invokespecial index, 3)) (hf : cells + mc ≤ R.cells ∧ slots + ms ≤ R.slots)
    (kk : ∀ (u : S) (A' : Nat → Prop) (t : State) (H1 : Heap) (locs1 : List Loc), s.vm.Alike t.vm → B u A' t → va_P D vwCl (wr ++ w1 u) H1 → va_D A (wr ++ w1 u) → va_S A s.heap H1 locs1 → W p l e R s m args below meth c H1 locs1 (cells + mc) (slots + ms) Q (F0 m (pc + 3) ls rest)) : W p l e R s m args below meth c H locs cells slots Q (F0 m pc ls st0) := by
  have hFc := va_free (wc := wc) hD hS hA isC hC
  refine va_callv (va_runI S0 hM cw ⟨wP_blind, fun U hU hW => ⟨rfl, by rw [hU], by rw [hU]; exact hP.sub isC (map_fm hC), va_K.moved hW.alike hK, (hD.sub isC hcn hC).weaken (fun _ _ _ _ => trivial)⟩⟩ rfl hn hsize hstack (lv_room hW) hdg hf) hS (fun q _ h => hFc q h) hFc (fun u t H1 locs1 ht hvm hw hB0 hz1 hk1 hS1 => ?_)
  obtain ⟨hP1, hD1⟩ := hB u _ t hB0
  rw [ht] at hP1
  obtain ⟨hP2, hD2⟩ := va_join hP hD isC isR hC hR hn1 hdis hk1 hFc hP1 hD1
  exact kk u _ t H1 locs1 hvm hB0 hP2 hD2 hS1
end CI
/-- a new Store -/
def stB (D : va_G) (a0 : Nat) (bz : Int) (u : Nat × Nat × Nat × ClassId × ClassId) (A : Nat → Prop) (t : State) : Prop := va_P D vwCl (sW a0 u.1 u.2.1 u.2.2.1 u.2.2.2.1 u.2.2.2.2 (clN bz) L0) t.heap ∧ va_K D vwCl (ty2 u.2.2.2.1 u.2.2.2.2) t ∧ va_D A (sW a0 u.1 u.2.1 u.2.2.1 u.2.2.2.1 u.2.2.2.2 (clN bz) L0)
set_option maxRecDepth 100000 in
set_option maxHeartbeats 4000000 in
theorem c_X0_init (l : Launch) (D : va_G) (a0 : Nat) (bv : Int32) (bz : Int) (sz : Nat) (h1 : bv.toInt = bz) : Met l yX0_init wsX0_init ({ frames := 1, cells := 3, slots := 4354, locals := 40 }) (wP [.ref a0, .int bv] D [(a0, .inr (1, [.int 0, .null, .null, .null, .int 0]))] [] sz) (va_Qv (fun _ : Nat × Nat × Nat × ClassId × ClassId => True) (fun u t => stB D a0 bz u (va_A [(a0, .inr (1, [.int 0, .null, .null, .null, .int 0]))] sz) t) (va_A [(a0, .inr (1, [.int 0, .null, .null, .null, .int 0]))] sz)) 3 4354 (va_A [(a0, .inr (1, [.int 0, .null, .null, .null, .int 0]))] sz) := by
  refine met_c (B := stB D a0 bz) (by decide) rfl (Nat.le_of_ble_eq_true rfl) rfl ?_
  intro p e s m below meth c hx hb hml hr hlocks hin hown hts hP hK A hD hA hS ls hl
  have hown : s.vm.findClass RX0 = some m.cls := hown
  have hinX0 : ∀ w ∈ u_ws RX0 TX0 5, w ∈ wsX0_init := by decide +kernel
  have hl : lv_has ls 2 [(0, .ref a0), (1, .int bv)] := hl
  have hcl := clN_in bz
  refine lv_aload_n hx hb dX0_init_0 rfl (lv_at hl 0 rfl) ?_
  refine W.objInit hx hb hown (hts (.methodLink RX0 3 objectInit) (by decide +kernel)) (hts (.instanceMethod objectInit) (by decide +kernel)) (hts (.code objectInit ⟨#[0xb1]⟩ 1 none) (by decide +kernel)) rfl (by rw [hml]; exact hl.1) rfl dX0_init_1 (Nat.le_of_ble_eq_true rfl) (Nat.le_of_ble_eq_true rfl) ?_
  refine W.eq (g2 := F0 m 4 ls []) rfl ?_
  refine lv_aload_n hx hb dX0_init_4 rfl (lv_at hl 0 rfl) ?_
  refine lv_sipush (v := nI 129) hx hb dX0_init_5 (by decide +kernel) ?_
  refine va_newa (atype := .int) (ty := .int) (N' := 129) (a0 := (129, .inl (aI (fun _ => 0)))) hx hb (hts (.arrayClass .int) (by decide +kernel)) rfl hK hP hD hS hA (cellI0 129) (nI_pos (n := 129) (by decide)) (nI_clamp (n := 129) (by decide)) (by show 129 * 4 ≤ 536870912; omega) (Nat.le_of_ble_eq_true rfl) (Nat.le_of_ble_eq_true rfl) dX0_init_8 (fun q1 cA2 H hK hP hD hS => ?_)
  have hK : va_K D vwCl [(cA2, .int)] s := hK
  have hP : va_P D vwCl [(a0, .inr (1, [.int 0, .null, .null, .null, .int 0])), (q1, .inl (cA2, 129, .inl (aI (fun _ => 0))))] H := hP
  have hD : va_D A [(a0, .inr (1, [.int 0, .null, .null, .null, .int 0])), (q1, .inl (cA2, 129, .inl (aI (fun _ => 0))))] := hD
  refine va_putF (D := D) (ci := 1) (v := .ref q1) (ty := .array .int) (C := RX0) (T := TX0) (N := 5) hx hb hts hinX0 tyX0 tyX0_ok nmX0 hown hK hP hD hS 0 rfl rfl 2 (by decide) (hts (.fieldLink RX0 9 "PuzzleBook$Store" "changedPlaces" "[I") (by decide +kernel)) (fun _ h9 => h9) rfl hin rfl (by decide +kernel) rfl rfl (Nat.le_of_ble_eq_true rfl) dX0_init_10 (fun H locs hP hD hS => ?_)
  have hP : va_P D vwCl [(a0, .inr (1, [.int 0, .null, .ref q1, .null, .int 0])), (q1, .inl (cA2, 129, .inl (aI (fun _ => 0))))] H := hP
  have hD : va_D A [(a0, .inr (1, [.int 0, .null, .ref q1, .null, .int 0])), (q1, .inl (cA2, 129, .inl (aI (fun _ => 0))))] := hD
  refine lv_aload_n hx hb dX0_init_13 rfl (lv_at hl 0 rfl) ?_
  refine lv_sipush (v := nI 129) hx hb dX0_init_14 (by decide +kernel) ?_
  refine va_newa (atype := .byte) (ty := .byte) (N' := 129) (a0 := (129, .inl (aB (fun _ => 0)))) hx hb (hts (.arrayClass .byte) (by decide +kernel)) rfl hK hP hD hS hA (cellB0 129) (nI_pos (n := 129) (by decide)) (nI_clamp (n := 129) (by decide)) (by show 129 * 1 ≤ 536870912; omega) (Nat.le_of_ble_eq_true rfl) (Nat.le_of_ble_eq_true rfl) dX0_init_17 (fun q3 cA4 H hK hP hD hS => ?_)
  have hK : va_K D vwCl [(cA2, .int), (cA4, .byte)] s := hK
  have hP : va_P D vwCl [(a0, .inr (1, [.int 0, .null, .ref q1, .null, .int 0])), (q1, .inl (cA2, 129, .inl (aI (fun _ => 0)))), (q3, .inl (cA4, 129, .inl (aB (fun _ => 0))))] H := hP
  have hD : va_D A [(a0, .inr (1, [.int 0, .null, .ref q1, .null, .int 0])), (q1, .inl (cA2, 129, .inl (aI (fun _ => 0)))), (q3, .inl (cA4, 129, .inl (aB (fun _ => 0))))] := hD
  refine va_putF (D := D) (ci := 1) (v := .ref q3) (ty := .array .byte) (C := RX0) (T := TX0) (N := 5) hx hb hts hinX0 tyX0 tyX0_ok nmX0 hown hK hP hD hS 0 rfl rfl 3 (by decide) (hts (.fieldLink RX0 15 "PuzzleBook$Store" "formerBytes" "[B") (by decide +kernel)) (fun _ h9 => h9) rfl hin rfl (by decide +kernel) rfl rfl (Nat.le_of_ble_eq_true rfl) dX0_init_19 (fun H locs hP hD hS => ?_)
  have hP : va_P D vwCl [(a0, .inr (1, [.int 0, .null, .ref q1, .ref q3, .int 0])), (q1, .inl (cA2, 129, .inl (aI (fun _ => 0)))), (q3, .inl (cA4, 129, .inl (aB (fun _ => 0))))] H := hP
  have hD : va_D A [(a0, .inr (1, [.int 0, .null, .ref q1, .ref q3, .int 0])), (q1, .inl (cA2, 129, .inl (aI (fun _ => 0)))), (q3, .inl (cA4, 129, .inl (aB (fun _ => 0))))] := hD
  refine lv_aload_n hx hb dX0_init_22 rfl (lv_at hl 0 rfl) ?_
  refine lv_iconst (v := nI 0) hx hb dX0_init_23 (by decide +kernel) ?_
  refine va_put (D := D) (ci := 1) (v := .int (nI 0)) (ty := .int) (C := RX0) (T := TX0) (N := 5) hx hb hts hinX0 tyX0 tyX0_ok nmX0 hown hK hP hD hS 0 rfl rfl 4 (by decide) (hts (.fieldLink RX0 19 "PuzzleBook$Store" "changed" "I") (by decide +kernel)) (fun _ h9 => h9) rfl (by decide +kernel) rfl rfl (Nat.le_of_ble_eq_true rfl) dX0_init_24 (fun H locs hP hD hS => ?_)
  have hP : va_P D vwCl [(a0, .inr (1, [.int 0, .null, .ref q1, .ref q3, .int (nI 0)])), (q1, .inl (cA2, 129, .inl (aI (fun _ => 0)))), (q3, .inl (cA4, 129, .inl (aB (fun _ => 0))))] H := hP
  have hD : va_D A [(a0, .inr (1, [.int 0, .null, .ref q1, .ref q3, .int (nI 0)])), (q1, .inl (cA2, 129, .inl (aI (fun _ => 0)))), (q3, .inl (cA4, 129, .inl (aB (fun _ => 0))))] := hD
  refine lv_aload_n hx hb dX0_init_27 rfl (lv_at hl 0 rfl) ?_
  refine lv_iconst (v := nI 4) hx hb dX0_init_28 (by decide +kernel) ?_
  refine lv_bipush (v := nI 64) hx hb dX0_init_29 (by decide +kernel) ?_
  refine lv_iload_n hx hb dX0_init_31 rfl (lv_at hl 1 rfl) ?_
  refine va_mmin hx hb (hml.trans hl.1.symm) hown (hts (.methodLink RX0 23 Lib.Math.min.name) (by decide +kernel)) (hts (.static Lib.Math.min.name) (by decide +kernel)) (hts (.initialized "java/lang/Math") (by decide +kernel)) (hts (.code Lib.Math.min.name Lib.Math.min.code 2 (some .int)) (by decide +kernel)) (Nat.le_of_ble_eq_true rfl) (Nat.le_of_ble_eq_true rfl) (Nat.le_of_ble_eq_true rfl) (Nat.le_of_ble_eq_true rfl) dX0_init_32 ?_
  refine va_mmax hx hb (hml.trans hl.1.symm) hown (hts (.methodLink RX0 29 Lib.Math.max.name) (by decide +kernel)) (hts (.static Lib.Math.max.name) (by decide +kernel)) (hts (.initialized "java/lang/Math") (by decide +kernel)) (hts (.code Lib.Math.max.name Lib.Math.max.code 2 (some .int)) (by decide +kernel)) (Nat.le_of_ble_eq_true rfl) (Nat.le_of_ble_eq_true rfl) (Nat.le_of_ble_eq_true rfl) (Nat.le_of_ble_eq_true rfl) dX0_init_35 ?_
  refine lv_as (y := nI (clN bz)) (clN_mm h1) ?_
  refine va_putF (D := D) (ci := 1) (v := .int (nI (clN bz))) (ty := .int) (C := RX0) (T := TX0) (N := 5) hx hb hts hinX0 tyX0 tyX0_ok nmX0 hown hK hP hD hS 0 rfl rfl 0 (by decide) (hts (.fieldLink RX0 32 "PuzzleBook$Store" "blocks" "I") (by decide +kernel)) (fun _ h9 => h9) rfl hin rfl (by decide +kernel) rfl rfl (Nat.le_of_ble_eq_true rfl) dX0_init_38 (fun H locs hP hD hS => ?_)
  have hP : va_P D vwCl [(a0, .inr (1, [.int (nI (clN bz)), .null, .ref q1, .ref q3, .int (nI 0)])), (q1, .inl (cA2, 129, .inl (aI (fun _ => 0)))), (q3, .inl (cA4, 129, .inl (aB (fun _ => 0))))] H := hP
  have hD : va_D A [(a0, .inr (1, [.int (nI (clN bz)), .null, .ref q1, .ref q3, .int (nI 0)])), (q1, .inl (cA2, 129, .inl (aI (fun _ => 0)))), (q3, .inl (cA4, 129, .inl (aB (fun _ => 0))))] := hD
  refine lv_aload_n hx hb dX0_init_41 rfl (lv_at hl 0 rfl) ?_
  refine lv_aload_n hx hb dX0_init_42 rfl (lv_at hl 0 rfl) ?_
  refine va_get (D := D) (ci := 1) (v := .int (nI (clN bz))) (C := RX0) (T := TX0) (N := 5) hx hb hts hinX0 hown hK hP 0 rfl rfl 0 (by decide) (hts (.fieldLink RX0 32 "PuzzleBook$Store" "blocks" "I") (by decide +kernel)) (fun _ h9 => h9) rfl dX0_init_43 ?_
  refine lv_bipush (v := nI 64) hx hb dX0_init_46 (by decide +kernel) ?_
  refine lv_imul hx hb dX0_init_48 ?_
  refine lv_as (y := nI (64 * (clN bz))) ((pk_mul _ _).trans (congrArg nI (Nat.mul_comm _ _))) ?_
  refine va_newa (atype := .byte) (ty := .byte) (N' := 64 * (clN bz)) (a0 := (64 * (clN bz), .inl (aB (fun _ => 0)))) hx hb (hts (.arrayClass .byte) (by decide +kernel)) rfl hK hP hD hS hA (cellB0 (64 * (clN bz))) (nI_pos (n := 64 * (clN bz)) (by omega)) (nI_clamp (n := 64 * (clN bz)) (by omega)) (by show 64 * (clN bz) * 1 ≤ 536870912; omega) (Nat.le_of_ble_eq_true rfl) (by show 0 + 129 + 129 + 64 * (clN bz) ≤ 4354; omega) dX0_init_49 (fun q5 cA6 H hK hP hD hS => ?_)
  have hK : va_K D vwCl [(cA2, .int), (cA4, .byte), (cA6, .byte)] s := hK
  have hP : va_P D vwCl [(a0, .inr (1, [.int (nI (clN bz)), .null, .ref q1, .ref q3, .int (nI 0)])), (q1, .inl (cA2, 129, .inl (aI (fun _ => 0)))), (q3, .inl (cA4, 129, .inl (aB (fun _ => 0)))), (q5, .inl (cA6, 64 * (clN bz), .inl (aB (fun _ => 0))))] H := hP
  have hD : va_D A [(a0, .inr (1, [.int (nI (clN bz)), .null, .ref q1, .ref q3, .int (nI 0)])), (q1, .inl (cA2, 129, .inl (aI (fun _ => 0)))), (q3, .inl (cA4, 129, .inl (aB (fun _ => 0)))), (q5, .inl (cA6, 64 * (clN bz), .inl (aB (fun _ => 0))))] := hD
  refine va_putF (D := D) (ci := 1) (v := .ref q5) (ty := .array .byte) (C := RX0) (T := TX0) (N := 5) hx hb hts hinX0 tyX0 tyX0_ok nmX0 hown hK hP hD hS 0 rfl rfl 1 (by decide) (hts (.fieldLink RX0 35 "PuzzleBook$Store" "bytes" "[B") (by decide +kernel)) (fun _ h9 => h9) rfl hin rfl (by decide +kernel) rfl rfl (Nat.le_of_ble_eq_true rfl) dX0_init_51 (fun H locs hP hD hS => ?_)
  have hP : va_P D vwCl [(a0, .inr (1, [.int (nI (clN bz)), .ref q5, .ref q1, .ref q3, .int (nI 0)])), (q1, .inl (cA2, 129, .inl (aI (fun _ => 0)))), (q3, .inl (cA4, 129, .inl (aB (fun _ => 0)))), (q5, .inl (cA6, 64 * (clN bz), .inl (aB (fun _ => 0))))] H := hP
  have hD : va_D A [(a0, .inr (1, [.int (nI (clN bz)), .ref q5, .ref q1, .ref q3, .int (nI 0)])), (q1, .inl (cA2, 129, .inl (aI (fun _ => 0)))), (q3, .inl (cA4, 129, .inl (aB (fun _ => 0)))), (q5, .inl (cA6, 64 * (clN bz), .inl (aB (fun _ => 0))))] := hD
  obtain rfl : cA4 = cA6 := ty_eqB hK 1 2 rfl rfl
  have hP9 := hP.sub (ws' := sW a0 q5 q1 q3 cA4 cA2 (clN bz) L0) [0, 3, 1, 2] rfl
  have hD9 := hD.sub (ws' := sW a0 q5 q1 q3 cA4 cA2 (clN bz) L0) [0, 3, 1, 2] (by decide) rfl
  have hK9 := hK.sub (tys' := ty2 cA4 cA2) [1, 0] rfl
  refine W.widen (k := 3) (n := 4354) (by decide) (by omega) ?_
  exact W.vret hx hb hr (fun t ht hW => ⟨⟨(q5, q1, q3, cA4, cA2), rfl, trivial, by rw [ht]; exact hP9, va_K.moved hW.alike hK9, hD9⟩, hS.F ht⟩) hS.2.2 dX0_init_54 hlocks
theorem L0_lt : ∀ j, L0.1 j < 256 := fun _ => by show 0 < 256; decide
theorem L0_E {n : Nat} (h : 0 < n) : ∀ k, bO (fun _ => 0) 0 k < n := bO_lt h (fun k h => absurd h (Nat.not_lt_zero k))
/-- the log of a new book -/
noncomputable def L1 : Lg := w0 (w1 (wR L0 1 0 (bO (fun _ => 0) 0)) (64 * 0 + 0) 1)
/-- a new PuzzleBook -/
def bkB (D : va_G) (b0 : Nat) (bz : Int) (u : Nat × Nat × Nat × Nat × Nat × Nat × ClassId × ClassId) (A : Nat → Prop) (t : State) : Prop := va_P D vwCl (bW b0 u.1 u.2.1 u.2.2.1 u.2.2.2.1 u.2.2.2.2.1 u.2.2.2.2.2.1 u.2.2.2.2.2.2.1 u.2.2.2.2.2.2.2 (clN bz) L1 (fun _ => 0) 0 1 1 (fun _ => 0) 0) t.heap ∧ va_K D vwCl (ty2 u.2.2.2.2.2.2.1 u.2.2.2.2.2.2.2) t ∧ va_D A (bW b0 u.1 u.2.1 u.2.2.1 u.2.2.2.1 u.2.2.2.2.1 u.2.2.2.2.2.1 u.2.2.2.2.2.2.1 u.2.2.2.2.2.2.2 (clN bz) L1 (fun _ => 0) 0 1 1 (fun _ => 0) 0)
/-- a new PuzzleBookModel -/
def mdB (D : va_G) (cB cI : ClassId) (m0 : Nat) (bz : Int) (u : Nat × Nat × Nat × Nat × Nat) (A : Nat → Prop) (t : State) : Prop := va_P D vwCl (mW m0 u.1 u.2.1 u.2.2.1 u.2.2.2.1 u.2.2.2.2 cB cI (clN bz) L1 (fun _ => 0) 0 1 1 (fun _ => 0) 0 0) t.heap ∧ va_D A (mW m0 u.1 u.2.1 u.2.2.1 u.2.2.2.1 u.2.2.2.2 cB cI (clN bz) L1 (fun _ => 0) 0 1 1 (fun _ => 0) 0 0)
set_option maxRecDepth 100000 in
set_option maxHeartbeats 4000000 in
theorem c_X1_init (l : Launch) (D : va_G) (b0 : Nat) (bv : Int32) (bz : Int) (sz : Nat) (h1 : bv.toInt = bz) : Met l yX1_init wsX1_init ({ frames := 5, cells := 6, slots := 4447, locals := 113 }) (wP [.ref b0, .int bv] D [(b0, .inr (2, [.null, .null, .int 0, .int 0, .int 0, .null, .int 0]))] [] sz) (va_Qv (fun _ : Nat × Nat × Nat × Nat × Nat × Nat × ClassId × ClassId => True) (fun u t => bkB D b0 bz u (va_A [(b0, .inr (2, [.null, .null, .int 0, .int 0, .int 0, .null, .int 0]))] sz) t) (va_A [(b0, .inr (2, [.null, .null, .int 0, .int 0, .int 0, .null, .int 0]))] sz)) 6 4447 (va_A [(b0, .inr (2, [.null, .null, .int 0, .int 0, .int 0, .null, .int 0]))] sz) := by
  refine met_c (B := bkB D b0 bz) (by decide) rfl (Nat.le_of_ble_eq_true rfl) rfl ?_
  intro p e s m below meth c hx hb hml hr hlocks hin hown hts hP hK A hD hA hS ls hl
  have hown : s.vm.findClass RX1 = some m.cls := hown
  have hinX0 : ∀ w ∈ u_ws RX0 TX0 5, w ∈ wsX1_init := by decide +kernel
  have hinX1 : ∀ w ∈ u_ws RX1 TX1 7, w ∈ wsX1_init := by decide +kernel
  have hl : lv_has ls 2 [(0, .ref b0), (1, .int bv)] := hl
  have hcl := clN_in bz
  refine lv_aload_n hx hb dX1_init_0 rfl (lv_at hl 0 rfl) ?_
  refine W.objInit hx hb hown (hts (.methodLink RX1 3 objectInit) (by decide +kernel)) (hts (.instanceMethod objectInit) (by decide +kernel)) (hts (.code objectInit ⟨#[0xb1]⟩ 1 none) (by decide +kernel)) rfl (by rw [hml]; exact hl.1) rfl dX1_init_1 (Nat.le_of_ble_eq_true rfl) (Nat.le_of_ble_eq_true rfl) ?_
  refine W.eq (g2 := F0 m 4 ls []) rfl ?_
  refine lv_aload_n hx hb dX1_init_4 rfl (lv_at hl 0 rfl) ?_
  refine lv_bipush (v := nI 48) hx hb dX1_init_5 (by decide +kernel) ?_
  refine va_newa (atype := .int) (ty := .int) (N' := 48) (a0 := (48, .inl (aI (fun _ => 0)))) hx hb (hts (.arrayClass .int) (by decide +kernel)) rfl hK hP hD hS hA (cellI0 48) (nI_pos (n := 48) (by decide)) (nI_clamp (n := 48) (by decide)) (by show 48 * 4 ≤ 536870912; omega) (Nat.le_of_ble_eq_true rfl) (Nat.le_of_ble_eq_true rfl) dX1_init_7 (fun q1 cA2 H hK hP hD hS => ?_)
  have hK : va_K D vwCl [(cA2, .int)] s := hK
  have hP : va_P D vwCl [(b0, .inr (2, [.null, .null, .int 0, .int 0, .int 0, .null, .int 0])), (q1, .inl (cA2, 48, .inl (aI (fun _ => 0))))] H := hP
  have hD : va_D A [(b0, .inr (2, [.null, .null, .int 0, .int 0, .int 0, .null, .int 0])), (q1, .inl (cA2, 48, .inl (aI (fun _ => 0))))] := hD
  refine va_putF (D := D) (ci := 2) (v := .ref q1) (ty := .array .int) (C := RX1) (T := TX1) (N := 7) hx hb hts hinX1 tyX1 tyX1_ok nmX1 hown hK hP hD hS 0 rfl rfl 1 (by decide) (hts (.fieldLink RX1 9 "PuzzleBook" "fedBytes" "[I") (by decide +kernel)) (fun _ h9 => h9) rfl hin rfl (by decide +kernel) rfl rfl (Nat.le_of_ble_eq_true rfl) dX1_init_9 (fun H locs hP hD hS => ?_)
  have hP : va_P D vwCl [(b0, .inr (2, [.null, .ref q1, .int 0, .int 0, .int 0, .null, .int 0])), (q1, .inl (cA2, 48, .inl (aI (fun _ => 0))))] H := hP
  have hD : va_D A [(b0, .inr (2, [.null, .ref q1, .int 0, .int 0, .int 0, .null, .int 0])), (q1, .inl (cA2, 48, .inl (aI (fun _ => 0))))] := hD
  refine lv_aload_n hx hb dX1_init_12 rfl (lv_at hl 0 rfl) ?_
  refine lv_iconst (v := nI 0) hx hb dX1_init_13 (by decide +kernel) ?_
  refine va_put (D := D) (ci := 2) (v := .int (nI 0)) (ty := .int) (C := RX1) (T := TX1) (N := 7) hx hb hts hinX1 tyX1 tyX1_ok nmX1 hown hK hP hD hS 0 rfl rfl 2 (by decide) (hts (.fieldLink RX1 13 "PuzzleBook" "fedCount" "I") (by decide +kernel)) (fun _ h9 => h9) rfl (by decide +kernel) rfl rfl (Nat.le_of_ble_eq_true rfl) dX1_init_14 (fun H locs hP hD hS => ?_)
  have hP : va_P D vwCl [(b0, .inr (2, [.null, .ref q1, .int (nI 0), .int 0, .int 0, .null, .int 0])), (q1, .inl (cA2, 48, .inl (aI (fun _ => 0))))] H := hP
  have hD : va_D A [(b0, .inr (2, [.null, .ref q1, .int (nI 0), .int 0, .int 0, .null, .int 0])), (q1, .inl (cA2, 48, .inl (aI (fun _ => 0))))] := hD
  refine lv_aload_n hx hb dX1_init_17 rfl (lv_at hl 0 rfl) ?_
  refine lv_bipush (v := nI 40) hx hb dX1_init_18 (by decide +kernel) ?_
  refine va_newa (atype := .int) (ty := .int) (N' := 40) (a0 := (40, .inl (aI (fun _ => 0)))) hx hb (hts (.arrayClass .int) (by decide +kernel)) rfl hK hP hD hS hA (cellI0 40) (nI_pos (n := 40) (by decide)) (nI_clamp (n := 40) (by decide)) (by show 40 * 4 ≤ 536870912; omega) (Nat.le_of_ble_eq_true rfl) (Nat.le_of_ble_eq_true rfl) dX1_init_20 (fun q3 cA4 H hK hP hD hS => ?_)
  have hK : va_K D vwCl [(cA2, .int), (cA4, .int)] s := hK
  have hP : va_P D vwCl [(b0, .inr (2, [.null, .ref q1, .int (nI 0), .int 0, .int 0, .null, .int 0])), (q1, .inl (cA2, 48, .inl (aI (fun _ => 0)))), (q3, .inl (cA4, 40, .inl (aI (fun _ => 0))))] H := hP
  have hD : va_D A [(b0, .inr (2, [.null, .ref q1, .int (nI 0), .int 0, .int 0, .null, .int 0])), (q1, .inl (cA2, 48, .inl (aI (fun _ => 0)))), (q3, .inl (cA4, 40, .inl (aI (fun _ => 0))))] := hD
  refine va_putF (D := D) (ci := 2) (v := .ref q3) (ty := .array .int) (C := RX1) (T := TX1) (N := 7) hx hb hts hinX1 tyX1 tyX1_ok nmX1 hown hK hP hD hS 0 rfl rfl 5 (by decide) (hts (.fieldLink RX1 17 "PuzzleBook" "entryBlocks" "[I") (by decide +kernel)) (fun _ h9 => h9) rfl hin rfl (by decide +kernel) rfl rfl (Nat.le_of_ble_eq_true rfl) dX1_init_22 (fun H locs hP hD hS => ?_)
  have hP : va_P D vwCl [(b0, .inr (2, [.null, .ref q1, .int (nI 0), .int 0, .int 0, .ref q3, .int 0])), (q1, .inl (cA2, 48, .inl (aI (fun _ => 0)))), (q3, .inl (cA4, 40, .inl (aI (fun _ => 0))))] H := hP
  have hD : va_D A [(b0, .inr (2, [.null, .ref q1, .int (nI 0), .int 0, .int 0, .ref q3, .int 0])), (q1, .inl (cA2, 48, .inl (aI (fun _ => 0)))), (q3, .inl (cA4, 40, .inl (aI (fun _ => 0))))] := hD
  refine lv_aload_n hx hb dX1_init_25 rfl (lv_at hl 0 rfl) ?_
  refine lv_iconst (v := nI 0) hx hb dX1_init_26 (by decide +kernel) ?_
  refine va_put (D := D) (ci := 2) (v := .int (nI 0)) (ty := .int) (C := RX1) (T := TX1) (N := 7) hx hb hts hinX1 tyX1 tyX1_ok nmX1 hown hK hP hD hS 0 rfl rfl 6 (by decide) (hts (.fieldLink RX1 20 "PuzzleBook" "entryCount" "I") (by decide +kernel)) (fun _ h9 => h9) rfl (by decide +kernel) rfl rfl (Nat.le_of_ble_eq_true rfl) dX1_init_27 (fun H locs hP hD hS => ?_)
  have hP : va_P D vwCl [(b0, .inr (2, [.null, .ref q1, .int (nI 0), .int 0, .int 0, .ref q3, .int (nI 0)])), (q1, .inl (cA2, 48, .inl (aI (fun _ => 0)))), (q3, .inl (cA4, 40, .inl (aI (fun _ => 0))))] H := hP
  have hD : va_D A [(b0, .inr (2, [.null, .ref q1, .int (nI 0), .int 0, .int 0, .ref q3, .int (nI 0)])), (q1, .inl (cA2, 48, .inl (aI (fun _ => 0)))), (q3, .inl (cA4, 40, .inl (aI (fun _ => 0))))] := hD
  refine lv_aload_n hx hb dX1_init_30 rfl (lv_at hl 0 rfl) ?_
  refine va_new (ci := 1) (fs := [.int 0, .null, .null, .null, .int 0]) (C := RX0) (T := TX0) (N := 5) hx hb hts hinX0 tyX0 tyX0_ok hown (hts (.classLink RX1 23 RX0) (by decide +kernel)) (hts (.instantiable RX0 5) (by decide +kernel)) (hts (.initialized RX0) (by decide +kernel)) hK hP hD hS hA rfl (fun j hj => by rcases (show j = 0 ∨ j = 1 ∨ j = 2 ∨ j = 3 ∨ j = 4 by omega) with rfl | rfl | rfl | rfl | rfl <;> rfl) (Nat.le_of_ble_eq_true rfl) (Nat.le_of_ble_eq_true rfl) dX1_init_31 (fun a0 H hP hD hS => ?_)
  have hP : va_P D vwCl [(b0, .inr (2, [.null, .ref q1, .int (nI 0), .int 0, .int 0, .ref q3, .int (nI 0)])), (q1, .inl (cA2, 48, .inl (aI (fun _ => 0)))), (q3, .inl (cA4, 40, .inl (aI (fun _ => 0)))), (a0, .inr (1, [.int 0, .null, .null, .null, .int 0]))] H := hP
  have hD : va_D A [(b0, .inr (2, [.null, .ref q1, .int (nI 0), .int 0, .int 0, .ref q3, .int (nI 0)])), (q1, .inl (cA2, 48, .inl (aI (fun _ => 0)))), (q3, .inl (cA4, 40, .inl (aI (fun _ => 0)))), (a0, .inr (1, [.int 0, .null, .null, .null, .int 0]))] := hD
  refine lv_dup hx hb dX1_init_34 rfl ?_
  refine lv_iload_n hx hb dX1_init_35 rfl (lv_at hl 1 rfl) ?_
  refine cr_I (B := stB D a0 bz) (w1 := fun u => sW a0 u.1 u.2.1 u.2.2.1 u.2.2.2.1 u.2.2.2.2 (clN bz) L0) (wc := [(a0, .inr (1, [.int 0, .null, .null, .null, .int 0]))]) (wr := [(b0, .inr (2, [.null, .ref q1, .int (nI 0), .int 0, .int 0, .ref q3, .int (nI 0)])), (q1, .inl (cA2, 48, .inl (aI (fun _ => 0)))), (q3, .inl (cA4, 40, .inl (aI (fun _ => 0))))]) (tys := []) (As := [.int bv]) (rest := [.ref a0, .ref b0]) ⟨hx, hb, hml, hown, hts⟩ (c_X0_init l D a0 bv bz H.size h1) (cwI 1 hts gX1_init_X0_init rfl rfl rfl (hts (.initialized RX0) (by decide +kernel)) (hts (.methodLink RX1 25 yX0_init) (by decide +kernel)) (hts (.instanceMethod yX0_init) (by decide +kernel)) rfl (by decide +kernel) ⟨Nat.le_of_ble_eq_true rfl, Nat.le_of_ble_eq_true rfl⟩) (hK.sub [] rfl) hP hD hS hA [3] [0, 1, 2] rfl rfl rfl rfl (by decide) (fun u A' t h => ⟨h.1, h.2.2⟩) rfl hl.1 rfl (Nat.le_of_ble_eq_true rfl) dX1_init_36 ⟨Nat.le_of_ble_eq_true rfl, Nat.le_of_ble_eq_true rfl⟩ (fun u A' t H locs hvm hB hP hD hS => ?_)
  obtain ⟨a1, a2, a3, cB, cI⟩ := u
  have hK1 : va_K D vwCl (ty2 cB cI) s := va_K.moved hvm.symm hB.2.1
  have hK9 := hK.app hK1
  have k1 : cI = cA2 := ty_eq hK9 3 0 rfl rfl
  subst k1
  have k2 : cI = cA4 := ty_eq hK9 3 1 rfl rfl
  subst k2
  have hK := hK1
  have hP : va_P D vwCl [(b0, .inr (2, [.null, .ref q1, .int (nI 0), .int 0, .int 0, .ref q3, .int (nI 0)])), (q1, .inl (cI, 48, .inl (aI (fun _ => 0)))), (q3, .inl (cI, 40, .inl (aI (fun _ => 0)))), (a0, .inr (1, [.int (nI (clN bz)), .ref a1, .ref a2, .ref a3, .int (nI 0)])), (a1, .inl (cB, (64 * clN bz), .inl (aB (fun _ => 0)))), (a2, .inl (cI, 129, .inl (aI (fun _ => 0)))), (a3, .inl (cB, 129, .inl (aB (fun _ => 0))))] H := hP
  have hD : va_D A [(b0, .inr (2, [.null, .ref q1, .int (nI 0), .int 0, .int 0, .ref q3, .int (nI 0)])), (q1, .inl (cI, 48, .inl (aI (fun _ => 0)))), (q3, .inl (cI, 40, .inl (aI (fun _ => 0)))), (a0, .inr (1, [.int (nI (clN bz)), .ref a1, .ref a2, .ref a3, .int (nI 0)])), (a1, .inl (cB, (64 * clN bz), .inl (aB (fun _ => 0)))), (a2, .inl (cI, 129, .inl (aI (fun _ => 0)))), (a3, .inl (cB, 129, .inl (aB (fun _ => 0))))] := hD
  refine va_putF (D := D) (ci := 2) (v := .ref a0) (ty := .object "PuzzleBook$Store") (C := RX1) (T := TX1) (N := 7) hx hb hts hinX1 tyX1 tyX1_ok nmX1 hown hK hP hD hS 0 rfl rfl 0 (by decide) (hts (.fieldLink RX1 28 "PuzzleBook" "store" "LPuzzleBook$Store;") (by decide +kernel)) (fun _ h9 => h9) rfl hin rfl (by decide +kernel) rfl rfl (Nat.le_of_ble_eq_true rfl) dX1_init_39 (fun H locs hP hD hS => ?_)
  have hP : va_P D vwCl [(b0, .inr (2, [.ref a0, .ref q1, .int (nI 0), .int 0, .int 0, .ref q3, .int (nI 0)])), (q1, .inl (cI, 48, .inl (aI (fun _ => 0)))), (q3, .inl (cI, 40, .inl (aI (fun _ => 0)))), (a0, .inr (1, [.int (nI (clN bz)), .ref a1, .ref a2, .ref a3, .int (nI 0)])), (a1, .inl (cB, (64 * clN bz), .inl (aB (fun _ => 0)))), (a2, .inl (cI, 129, .inl (aI (fun _ => 0)))), (a3, .inl (cB, 129, .inl (aB (fun _ => 0))))] H := hP
  have hD : va_D A [(b0, .inr (2, [.ref a0, .ref q1, .int (nI 0), .int 0, .int 0, .ref q3, .int (nI 0)])), (q1, .inl (cI, 48, .inl (aI (fun _ => 0)))), (q3, .inl (cI, 40, .inl (aI (fun _ => 0)))), (a0, .inr (1, [.int (nI (clN bz)), .ref a1, .ref a2, .ref a3, .int (nI 0)])), (a1, .inl (cB, (64 * clN bz), .inl (aB (fun _ => 0)))), (a2, .inl (cI, 129, .inl (aI (fun _ => 0)))), (a3, .inl (cB, 129, .inl (aB (fun _ => 0))))] := hD
  have hP : va_P D vwCl (bW b0 q1 q3 a0 a1 a2 a3 cB cI (clN bz) L0 (fun _ => 0) 0 0 0 (fun _ => 0) 0) H := hP
  have hD : va_D A (bW b0 q1 q3 a0 a1 a2 a3 cB cI (clN bz) L0 (fun _ => 0) 0 0 0 (fun _ => 0) 0) := hD
  refine lv_aload_n hx hb dX1_init_42 rfl (lv_at hl 0 rfl) ?_
  refine lv_iconst (v := nI 1) hx hb dX1_init_43 (by decide +kernel) ?_
  refine va_put (D := D) (ci := 2) (v := .int (nI 1)) (ty := .int) (C := RX1) (T := TX1) (N := 7) hx hb hts hinX1 tyX1 tyX1_ok nmX1 hown hK hP hD hS 0 rfl rfl 4 (by decide) (hts (.fieldLink RX1 32 "PuzzleBook" "turn" "I") (by decide +kernel)) (fun _ h9 => h9) rfl (by decide +kernel) rfl rfl (Nat.le_of_ble_eq_true rfl) dX1_init_44 (fun H locs hP hD hS => ?_)
  have hP : va_P D vwCl (bW b0 q1 q3 a0 a1 a2 a3 cB cI (clN bz) L0 (fun _ => 0) 0 0 1 (fun _ => 0) 0) H := hP
  have hD : va_D A (bW b0 q1 q3 a0 a1 a2 a3 cB cI (clN bz) L0 (fun _ => 0) 0 0 1 (fun _ => 0) 0) := hD
  refine lv_aload_n hx hb dX1_init_47 rfl (lv_at hl 0 rfl) ?_
  refine lv_iconst (v := nI 1) hx hb dX1_init_48 (by decide +kernel) ?_
  refine wr_V (wr := []) (wo := (bW b0 q1 q3 a0 a1 a2 a3 cB cI (clN bz) (wR L0 1 0 (bO (fun _ => 0) 0)) (fun _ => 0) 0 0 1 (fun _ => 0) 0)) (As := [.int (nI 1)]) (rest := []) ⟨hx, hb, hml, hown, hts⟩ (c_X1_writeRootBlock l D b0 q1 q3 a0 a1 a2 a3 cB cI (clN bz) L0 (fun _ => 0) 0 0 1 (fun _ => 0) 0 1 H.size  hcl.2 L0_lt (Nat.zero_le _) (L0_E (by omega)) (by omega) (by decide)) (cwV 1 hts gX1_init_X1_writeRootBlock rfl rfl rfl (by decide +kernel) ⟨Nat.le_of_ble_eq_true rfl, Nat.le_of_ble_eq_true rfl⟩) hK hP hD hS hA [0, 1, 2, 3, 4, 5, 6] [] rfl rfl rfl rfl (by decide) [0, 1, 2, 3, 4, 5, 6] rfl rfl (ci := 2) rfl rfl (q0 := 0) rfl rfl hl.1 rfl (Nat.le_of_ble_eq_true rfl) dX1_init_49 ⟨Nat.le_of_ble_eq_true rfl, Nat.le_of_ble_eq_true rfl⟩ (fun H locs hP hD hS => ?_)
  refine lv_aload_n hx hb dX1_init_52 rfl (lv_at hl 0 rfl) ?_
  refine va_get (D := D) (ci := 2) (v := .ref a0) (C := RX1) (T := TX1) (N := 7) hx hb hts hinX1 hown hK hP 0 rfl rfl 0 (by decide) (hts (.fieldLink RX1 28 "PuzzleBook" "store" "LPuzzleBook$Store;") (by decide +kernel)) (fun _ h9 => h9) rfl dX1_init_53 ?_
  refine lv_iconst (v := nI 0) hx hb dX1_init_56 (by decide +kernel) ?_
  refine lv_iconst (v := nI 0) hx hb dX1_init_57 (by decide +kernel) ?_
  refine lv_iconst (v := nI 1) hx hb dX1_init_58 (by decide +kernel) ?_
  refine wr_V (wr := [(b0, .inr (2, [.ref a0, .ref q1, .int (nI 0), .int (nI 0), .int (nI 1), .ref q3, .int (nI 0)])), (q1, .inl (cI, 48, .inl (aI (fun _ => 0)))), (q3, .inl (cI, 40, .inl (aI (fun _ => 0))))]) (wo := (bW b0 q1 q3 a0 a1 a2 a3 cB cI (clN bz) (w1 (wR L0 1 0 (bO (fun _ => 0) 0)) (64 * 0 + 0) 1) (fun _ => 0) 0 0 1 (fun _ => 0) 0)) (As := [.int (nI 0), .int (nI 0), .int (nI 1)]) (rest := []) ⟨hx, hb, hml, hown, hts⟩ (c_X0_write l D a0 a1 a2 a3 cB cI (clN bz) (wR L0 1 0 (bO (fun _ => 0) 0)) 0 0 (nI 1) 1 H.size  hcl.2 (by omega) (by decide) (by rw [wR_c]; decide) rfl) (cwV 3 hts gX1_init_X0_write rfl rfl rfl (by decide +kernel) ⟨Nat.le_of_ble_eq_true rfl, Nat.le_of_ble_eq_true rfl⟩) hK hP hD hS hA [3, 4, 5, 6] [0, 1, 2] rfl rfl rfl rfl (by decide) [0, 1, 2, 3, 4, 5, 6] rfl rfl (ci := 1) rfl rfl (q0 := 3) rfl rfl hl.1 rfl (Nat.le_of_ble_eq_true rfl) dX1_init_59 ⟨Nat.le_of_ble_eq_true rfl, Nat.le_of_ble_eq_true rfl⟩ (fun H locs hP hD hS => ?_)
  refine lv_aload_n hx hb dX1_init_62 rfl (lv_at hl 0 rfl) ?_
  refine va_get (D := D) (ci := 2) (v := .ref a0) (C := RX1) (T := TX1) (N := 7) hx hb hts hinX1 hown hK hP 0 rfl rfl 0 (by decide) (hts (.fieldLink RX1 28 "PuzzleBook" "store" "LPuzzleBook$Store;") (by decide +kernel)) (fun _ h9 => h9) rfl dX1_init_63 ?_
  refine wr_V (wr := [(b0, .inr (2, [.ref a0, .ref q1, .int (nI 0), .int (nI 0), .int (nI 1), .ref q3, .int (nI 0)])), (q1, .inl (cI, 48, .inl (aI (fun _ => 0)))), (q3, .inl (cI, 40, .inl (aI (fun _ => 0))))]) (wo := (bW b0 q1 q3 a0 a1 a2 a3 cB cI (clN bz) (w0 (w1 (wR L0 1 0 (bO (fun _ => 0) 0)) (64 * 0 + 0) 1)) (fun _ => 0) 0 0 1 (fun _ => 0) 0)) (As := []) (rest := []) ⟨hx, hb, hml, hown, hts⟩ (c_X0_beginChange l D a0 a1 a2 a3 cB cI (clN bz) (w1 (wR L0 1 0 (bO (fun _ => 0) 0)) (64 * 0 + 0) 1)  H.size  ) (cwV 0 hts gX1_init_X0_beginChange rfl rfl rfl (by decide +kernel) ⟨Nat.le_of_ble_eq_true rfl, Nat.le_of_ble_eq_true rfl⟩) hK hP hD hS hA [3, 4, 5, 6] [0, 1, 2] rfl rfl rfl rfl (by decide) [0, 1, 2, 3, 4, 5, 6] rfl rfl (ci := 1) rfl rfl (q0 := 3) rfl rfl hl.1 rfl (Nat.le_of_ble_eq_true rfl) dX1_init_66 ⟨Nat.le_of_ble_eq_true rfl, Nat.le_of_ble_eq_true rfl⟩ (fun H locs hP hD hS => ?_)
  refine lv_aload_n hx hb dX1_init_69 rfl (lv_at hl 0 rfl) ?_
  refine lv_iconst (v := nI 1) hx hb dX1_init_70 (by decide +kernel) ?_
  refine va_put (D := D) (ci := 2) (v := .int (nI 1)) (ty := .boolean) (C := RX1) (T := TX1) (N := 7) hx hb hts hinX1 tyX1 tyX1_ok nmX1 hown hK hP hD hS 0 rfl rfl 3 (by decide) (hts (.fieldLink RX1 45 "PuzzleBook" "isOpen" "Z") (by decide +kernel)) (fun _ h9 => h9) rfl (by decide +kernel) rfl rfl (Nat.le_of_ble_eq_true rfl) dX1_init_71 (fun H locs hP hD hS => ?_)
  have hP : va_P D vwCl (bW b0 q1 q3 a0 a1 a2 a3 cB cI (clN bz) (w0 (w1 (wR L0 1 0 (bO (fun _ => 0) 0)) (64 * 0 + 0) 1)) (fun _ => 0) 0 1 1 (fun _ => 0) 0) H := hP
  have hD : va_D A (bW b0 q1 q3 a0 a1 a2 a3 cB cI (clN bz) (w0 (w1 (wR L0 1 0 (bO (fun _ => 0) 0)) (64 * 0 + 0) 1)) (fun _ => 0) 0 1 1 (fun _ => 0) 0) := hD
  refine W.widen (k := 6) (n := 4447) (by decide) (by decide) ?_
  exact W.vret hx hb hr (fun t ht hW => ⟨⟨(q1, q3, a0, a1, a2, a3, cB, cI), rfl, trivial, by rw [ht]; exact hP, va_K.moved hW.alike hK, hD⟩, hS.F ht⟩) hS.2.2 dX1_init_74 hlocks
set_option maxRecDepth 100000 in
set_option maxHeartbeats 4000000 in
theorem c_X2_init (l : Launch) (D : va_G) (cB cI : ClassId) (m0 : Nat) (bv : Int32) (bz : Int) (sz : Nat) (h1 : bv.toInt = bz) : Met l yX2_init wsX2_init ({ frames := 3, cells := 5, slots := 4442, locals := 71 }) (wP [.ref m0, .int bv] D [(m0, .inr (3, [.int 0, .null, .int 0, .int 0, .int 0, .int 0, .null, .null, .int 0, .null, .null, .int 0]))] (ty2 cB cI) sz) (va_Qv (fun _ : Nat × Nat × Nat × Nat × Nat => True) (fun u t => mdB D cB cI m0 bz u (va_A [(m0, .inr (3, [.int 0, .null, .int 0, .int 0, .int 0, .int 0, .null, .null, .int 0, .null, .null, .int 0]))] sz) t) (va_A [(m0, .inr (3, [.int 0, .null, .int 0, .int 0, .int 0, .int 0, .null, .null, .int 0, .null, .null, .int 0]))] sz)) 5 4442 (va_A [(m0, .inr (3, [.int 0, .null, .int 0, .int 0, .int 0, .int 0, .null, .null, .int 0, .null, .null, .int 0]))] sz) := by
  refine met_c (B := mdB D cB cI m0 bz) (by decide) rfl (Nat.le_of_ble_eq_true rfl) rfl ?_
  intro p e s m below meth c hx hb hml hr hlocks hin hown hts hP hK A hD hA hS ls hl
  have hown : s.vm.findClass RX2 = some m.cls := hown
  have hinX2 : ∀ w ∈ u_ws RX2 TX2 12, w ∈ wsX2_init := by decide +kernel
  have hl : lv_has ls 2 [(0, .ref m0), (1, .int bv)] := hl
  have hcl := clN_in bz
  refine lv_aload_n hx hb dX2_init_0 rfl (lv_at hl 0 rfl) ?_
  refine W.objInit hx hb hown (hts (.methodLink RX2 1 objectInit) (by decide +kernel)) (hts (.instanceMethod objectInit) (by decide +kernel)) (hts (.code objectInit ⟨#[0xb1]⟩ 1 none) (by decide +kernel)) rfl (by rw [hml]; exact hl.1) rfl dX2_init_1 (Nat.le_of_ble_eq_true rfl) (Nat.le_of_ble_eq_true rfl) ?_
  refine W.eq (g2 := F0 m 4 ls []) rfl ?_
  refine lv_aload_n hx hb dX2_init_4 rfl (lv_at hl 0 rfl) ?_
  refine lv_sipush (v := nI 4096) hx hb dX2_init_5 (by decide +kernel) ?_
  refine va_newa (atype := .int) (ty := .int) (N' := 4096) (a0 := (4096, .inl (aI (fun _ => 0)))) hx hb (hts (.arrayClass .int) (by decide +kernel)) rfl hK hP hD hS hA (cellI0 4096) (nI_pos (n := 4096) (by decide)) (nI_clamp (n := 4096) (by decide)) (by show 4096 * 4 ≤ 536870912; omega) (Nat.le_of_ble_eq_true rfl) (Nat.le_of_ble_eq_true rfl) dX2_init_8 (fun q1 cA2 H hK hP hD hS => ?_)
  have hK : va_K D vwCl [(cB, .byte), (cI, .int), (cA2, .int)] s := hK
  have hP : va_P D vwCl [(m0, .inr (3, [.int 0, .null, .int 0, .int 0, .int 0, .int 0, .null, .null, .int 0, .null, .null, .int 0])), (q1, .inl (cA2, 4096, .inl (aI (fun _ => 0))))] H := hP
  have hD : va_D A [(m0, .inr (3, [.int 0, .null, .int 0, .int 0, .int 0, .int 0, .null, .null, .int 0, .null, .null, .int 0])), (q1, .inl (cA2, 4096, .inl (aI (fun _ => 0))))] := hD
  refine va_putF (D := D) (ci := 3) (v := .ref q1) (ty := .array .int) (C := RX2) (T := TX2) (N := 12) hx hb hts hinX2 tyX2 tyX2_ok nmX2 hown hK hP hD hS 0 rfl rfl 1 (by decide) (hts (.fieldLink RX2 7 "PuzzleBookModel" "store" "[I") (by decide +kernel)) (fun _ h9 => h9) rfl hin rfl (by decide +kernel) rfl rfl (Nat.le_of_ble_eq_true rfl) dX2_init_10 (fun H locs hP hD hS => ?_)
  have hP : va_P D vwCl [(m0, .inr (3, [.int 0, .ref q1, .int 0, .int 0, .int 0, .int 0, .null, .null, .int 0, .null, .null, .int 0])), (q1, .inl (cA2, 4096, .inl (aI (fun _ => 0))))] H := hP
  have hD : va_D A [(m0, .inr (3, [.int 0, .ref q1, .int 0, .int 0, .int 0, .int 0, .null, .null, .int 0, .null, .null, .int 0])), (q1, .inl (cA2, 4096, .inl (aI (fun _ => 0))))] := hD
  refine lv_aload_n hx hb dX2_init_13 rfl (lv_at hl 0 rfl) ?_
  refine lv_bipush (v := nI 40) hx hb dX2_init_14 (by decide +kernel) ?_
  refine va_newa (atype := .int) (ty := .int) (N' := 40) (a0 := (40, .inl (aI (fun _ => 0)))) hx hb (hts (.arrayClass .int) (by decide +kernel)) rfl hK hP hD hS hA (cellI0 40) (nI_pos (n := 40) (by decide)) (nI_clamp (n := 40) (by decide)) (by show 40 * 4 ≤ 536870912; omega) (Nat.le_of_ble_eq_true rfl) (Nat.le_of_ble_eq_true rfl) dX2_init_16 (fun q3 cA4 H hK hP hD hS => ?_)
  have hK : va_K D vwCl [(cB, .byte), (cI, .int), (cA2, .int), (cA4, .int)] s := hK
  have hP : va_P D vwCl [(m0, .inr (3, [.int 0, .ref q1, .int 0, .int 0, .int 0, .int 0, .null, .null, .int 0, .null, .null, .int 0])), (q1, .inl (cA2, 4096, .inl (aI (fun _ => 0)))), (q3, .inl (cA4, 40, .inl (aI (fun _ => 0))))] H := hP
  have hD : va_D A [(m0, .inr (3, [.int 0, .ref q1, .int 0, .int 0, .int 0, .int 0, .null, .null, .int 0, .null, .null, .int 0])), (q1, .inl (cA2, 4096, .inl (aI (fun _ => 0)))), (q3, .inl (cA4, 40, .inl (aI (fun _ => 0))))] := hD
  refine va_putF (D := D) (ci := 3) (v := .ref q3) (ty := .array .int) (C := RX2) (T := TX2) (N := 12) hx hb hts hinX2 tyX2 tyX2_ok nmX2 hown hK hP hD hS 0 rfl rfl 6 (by decide) (hts (.fieldLink RX2 13 "PuzzleBookModel" "block" "[I") (by decide +kernel)) (fun _ h9 => h9) rfl hin rfl (by decide +kernel) rfl rfl (Nat.le_of_ble_eq_true rfl) dX2_init_18 (fun H locs hP hD hS => ?_)
  have hP : va_P D vwCl [(m0, .inr (3, [.int 0, .ref q1, .int 0, .int 0, .int 0, .int 0, .ref q3, .null, .int 0, .null, .null, .int 0])), (q1, .inl (cA2, 4096, .inl (aI (fun _ => 0)))), (q3, .inl (cA4, 40, .inl (aI (fun _ => 0))))] H := hP
  have hD : va_D A [(m0, .inr (3, [.int 0, .ref q1, .int 0, .int 0, .int 0, .int 0, .ref q3, .null, .int 0, .null, .null, .int 0])), (q1, .inl (cA2, 4096, .inl (aI (fun _ => 0)))), (q3, .inl (cA4, 40, .inl (aI (fun _ => 0))))] := hD
  refine lv_aload_n hx hb dX2_init_21 rfl (lv_at hl 0 rfl) ?_
  refine lv_bipush (v := nI 48) hx hb dX2_init_22 (by decide +kernel) ?_
  refine va_newa (atype := .int) (ty := .int) (N' := 48) (a0 := (48, .inl (aI (fun _ => 0)))) hx hb (hts (.arrayClass .int) (by decide +kernel)) rfl hK hP hD hS hA (cellI0 48) (nI_pos (n := 48) (by decide)) (nI_clamp (n := 48) (by decide)) (by show 48 * 4 ≤ 536870912; omega) (Nat.le_of_ble_eq_true rfl) (Nat.le_of_ble_eq_true rfl) dX2_init_24 (fun q5 cA6 H hK hP hD hS => ?_)
  have hK : va_K D vwCl [(cB, .byte), (cI, .int), (cA2, .int), (cA4, .int), (cA6, .int)] s := hK
  have hP : va_P D vwCl [(m0, .inr (3, [.int 0, .ref q1, .int 0, .int 0, .int 0, .int 0, .ref q3, .null, .int 0, .null, .null, .int 0])), (q1, .inl (cA2, 4096, .inl (aI (fun _ => 0)))), (q3, .inl (cA4, 40, .inl (aI (fun _ => 0)))), (q5, .inl (cA6, 48, .inl (aI (fun _ => 0))))] H := hP
  have hD : va_D A [(m0, .inr (3, [.int 0, .ref q1, .int 0, .int 0, .int 0, .int 0, .ref q3, .null, .int 0, .null, .null, .int 0])), (q1, .inl (cA2, 4096, .inl (aI (fun _ => 0)))), (q3, .inl (cA4, 40, .inl (aI (fun _ => 0)))), (q5, .inl (cA6, 48, .inl (aI (fun _ => 0))))] := hD
  refine va_putF (D := D) (ci := 3) (v := .ref q5) (ty := .array .int) (C := RX2) (T := TX2) (N := 12) hx hb hts hinX2 tyX2 tyX2_ok nmX2 hown hK hP hD hS 0 rfl rfl 7 (by decide) (hts (.fieldLink RX2 16 "PuzzleBookModel" "fed" "[I") (by decide +kernel)) (fun _ h9 => h9) rfl hin rfl (by decide +kernel) rfl rfl (Nat.le_of_ble_eq_true rfl) dX2_init_26 (fun H locs hP hD hS => ?_)
  have hP : va_P D vwCl [(m0, .inr (3, [.int 0, .ref q1, .int 0, .int 0, .int 0, .int 0, .ref q3, .ref q5, .int 0, .null, .null, .int 0])), (q1, .inl (cA2, 4096, .inl (aI (fun _ => 0)))), (q3, .inl (cA4, 40, .inl (aI (fun _ => 0)))), (q5, .inl (cA6, 48, .inl (aI (fun _ => 0))))] H := hP
  have hD : va_D A [(m0, .inr (3, [.int 0, .ref q1, .int 0, .int 0, .int 0, .int 0, .ref q3, .ref q5, .int 0, .null, .null, .int 0])), (q1, .inl (cA2, 4096, .inl (aI (fun _ => 0)))), (q3, .inl (cA4, 40, .inl (aI (fun _ => 0)))), (q5, .inl (cA6, 48, .inl (aI (fun _ => 0))))] := hD
  refine lv_aload_n hx hb dX2_init_29 rfl (lv_at hl 0 rfl) ?_
  refine lv_sipush (v := nI 129) hx hb dX2_init_30 (by decide +kernel) ?_
  refine va_newa (atype := .int) (ty := .int) (N' := 129) (a0 := (129, .inl (aI (fun _ => 0)))) hx hb (hts (.arrayClass .int) (by decide +kernel)) rfl hK hP hD hS hA (cellI0 129) (nI_pos (n := 129) (by decide)) (nI_clamp (n := 129) (by decide)) (by show 129 * 4 ≤ 536870912; omega) (Nat.le_of_ble_eq_true rfl) (Nat.le_of_ble_eq_true rfl) dX2_init_33 (fun q7 cA8 H hK hP hD hS => ?_)
  have hK : va_K D vwCl [(cB, .byte), (cI, .int), (cA2, .int), (cA4, .int), (cA6, .int), (cA8, .int)] s := hK
  have hP : va_P D vwCl [(m0, .inr (3, [.int 0, .ref q1, .int 0, .int 0, .int 0, .int 0, .ref q3, .ref q5, .int 0, .null, .null, .int 0])), (q1, .inl (cA2, 4096, .inl (aI (fun _ => 0)))), (q3, .inl (cA4, 40, .inl (aI (fun _ => 0)))), (q5, .inl (cA6, 48, .inl (aI (fun _ => 0)))), (q7, .inl (cA8, 129, .inl (aI (fun _ => 0))))] H := hP
  have hD : va_D A [(m0, .inr (3, [.int 0, .ref q1, .int 0, .int 0, .int 0, .int 0, .ref q3, .ref q5, .int 0, .null, .null, .int 0])), (q1, .inl (cA2, 4096, .inl (aI (fun _ => 0)))), (q3, .inl (cA4, 40, .inl (aI (fun _ => 0)))), (q5, .inl (cA6, 48, .inl (aI (fun _ => 0)))), (q7, .inl (cA8, 129, .inl (aI (fun _ => 0))))] := hD
  refine va_putF (D := D) (ci := 3) (v := .ref q7) (ty := .array .int) (C := RX2) (T := TX2) (N := 12) hx hb hts hinX2 tyX2 tyX2_ok nmX2 hown hK hP hD hS 0 rfl rfl 9 (by decide) (hts (.fieldLink RX2 19 "PuzzleBookModel" "where" "[I") (by decide +kernel)) (fun _ h9 => h9) rfl hin rfl (by decide +kernel) rfl rfl (Nat.le_of_ble_eq_true rfl) dX2_init_35 (fun H locs hP hD hS => ?_)
  have hP : va_P D vwCl [(m0, .inr (3, [.int 0, .ref q1, .int 0, .int 0, .int 0, .int 0, .ref q3, .ref q5, .int 0, .ref q7, .null, .int 0])), (q1, .inl (cA2, 4096, .inl (aI (fun _ => 0)))), (q3, .inl (cA4, 40, .inl (aI (fun _ => 0)))), (q5, .inl (cA6, 48, .inl (aI (fun _ => 0)))), (q7, .inl (cA8, 129, .inl (aI (fun _ => 0))))] H := hP
  have hD : va_D A [(m0, .inr (3, [.int 0, .ref q1, .int 0, .int 0, .int 0, .int 0, .ref q3, .ref q5, .int 0, .ref q7, .null, .int 0])), (q1, .inl (cA2, 4096, .inl (aI (fun _ => 0)))), (q3, .inl (cA4, 40, .inl (aI (fun _ => 0)))), (q5, .inl (cA6, 48, .inl (aI (fun _ => 0)))), (q7, .inl (cA8, 129, .inl (aI (fun _ => 0))))] := hD
  refine lv_aload_n hx hb dX2_init_38 rfl (lv_at hl 0 rfl) ?_
  refine lv_sipush (v := nI 129) hx hb dX2_init_39 (by decide +kernel) ?_
  refine va_newa (atype := .int) (ty := .int) (N' := 129) (a0 := (129, .inl (aI (fun _ => 0)))) hx hb (hts (.arrayClass .int) (by decide +kernel)) rfl hK hP hD hS hA (cellI0 129) (nI_pos (n := 129) (by decide)) (nI_clamp (n := 129) (by decide)) (by show 129 * 4 ≤ 536870912; omega) (Nat.le_of_ble_eq_true rfl) (Nat.le_of_ble_eq_true rfl) dX2_init_42 (fun q9 cA10 H hK hP hD hS => ?_)
  have hK : va_K D vwCl [(cB, .byte), (cI, .int), (cA2, .int), (cA4, .int), (cA6, .int), (cA8, .int), (cA10, .int)] s := hK
  have hP : va_P D vwCl [(m0, .inr (3, [.int 0, .ref q1, .int 0, .int 0, .int 0, .int 0, .ref q3, .ref q5, .int 0, .ref q7, .null, .int 0])), (q1, .inl (cA2, 4096, .inl (aI (fun _ => 0)))), (q3, .inl (cA4, 40, .inl (aI (fun _ => 0)))), (q5, .inl (cA6, 48, .inl (aI (fun _ => 0)))), (q7, .inl (cA8, 129, .inl (aI (fun _ => 0)))), (q9, .inl (cA10, 129, .inl (aI (fun _ => 0))))] H := hP
  have hD : va_D A [(m0, .inr (3, [.int 0, .ref q1, .int 0, .int 0, .int 0, .int 0, .ref q3, .ref q5, .int 0, .ref q7, .null, .int 0])), (q1, .inl (cA2, 4096, .inl (aI (fun _ => 0)))), (q3, .inl (cA4, 40, .inl (aI (fun _ => 0)))), (q5, .inl (cA6, 48, .inl (aI (fun _ => 0)))), (q7, .inl (cA8, 129, .inl (aI (fun _ => 0)))), (q9, .inl (cA10, 129, .inl (aI (fun _ => 0))))] := hD
  refine va_putF (D := D) (ci := 3) (v := .ref q9) (ty := .array .int) (C := RX2) (T := TX2) (N := 12) hx hb hts hinX2 tyX2 tyX2_ok nmX2 hown hK hP hD hS 0 rfl rfl 10 (by decide) (hts (.fieldLink RX2 22 "PuzzleBookModel" "before" "[I") (by decide +kernel)) (fun _ h9 => h9) rfl hin rfl (by decide +kernel) rfl rfl (Nat.le_of_ble_eq_true rfl) dX2_init_44 (fun H locs hP hD hS => ?_)
  have hP : va_P D vwCl [(m0, .inr (3, [.int 0, .ref q1, .int 0, .int 0, .int 0, .int 0, .ref q3, .ref q5, .int 0, .ref q7, .ref q9, .int 0])), (q1, .inl (cA2, 4096, .inl (aI (fun _ => 0)))), (q3, .inl (cA4, 40, .inl (aI (fun _ => 0)))), (q5, .inl (cA6, 48, .inl (aI (fun _ => 0)))), (q7, .inl (cA8, 129, .inl (aI (fun _ => 0)))), (q9, .inl (cA10, 129, .inl (aI (fun _ => 0))))] H := hP
  have hD : va_D A [(m0, .inr (3, [.int 0, .ref q1, .int 0, .int 0, .int 0, .int 0, .ref q3, .ref q5, .int 0, .ref q7, .ref q9, .int 0])), (q1, .inl (cA2, 4096, .inl (aI (fun _ => 0)))), (q3, .inl (cA4, 40, .inl (aI (fun _ => 0)))), (q5, .inl (cA6, 48, .inl (aI (fun _ => 0)))), (q7, .inl (cA8, 129, .inl (aI (fun _ => 0)))), (q9, .inl (cA10, 129, .inl (aI (fun _ => 0))))] := hD
  refine lv_aload_n hx hb dX2_init_47 rfl (lv_at hl 0 rfl) ?_
  refine lv_iload_n hx hb dX2_init_48 rfl (lv_at hl 1 rfl) ?_
  refine lv_iconst (v := nI 4) hx hb dX2_init_49 (by decide +kernel) ?_
  have k1 : cI = cA2 := ty_eq hK 1 2 rfl rfl
  subst k1
  have k2 : cI = cA4 := ty_eq hK 1 3 rfl rfl
  subst k2
  have k3 : cI = cA6 := ty_eq hK 1 4 rfl rfl
  subst k3
  have k4 : cI = cA8 := ty_eq hK 1 5 rfl rfl
  subst k4
  have k5 : cI = cA10 := ty_eq hK 1 6 rfl rfl
  subst k5
  have hK : va_K D vwCl (ty2 cB cI) s := hK.sub [0, 1] rfl
  refine jb_ge (tgt := 57) hx hb h1 (nI_toInt (n := 4) (by decide)) dX2_init_50 (by decide) (fun c11 => ?_) (fun c11 => ?_)
  · skip
    refine lv_iload_n hx hb dX2_init_57 rfl (lv_at hl 1 rfl) ?_
    refine lv_bipush (v := nI 64) hx hb dX2_init_58 (by decide +kernel) ?_
    refine jb_le (tgt := 68) hx hb h1 (nI_toInt (n := 64) (by decide)) dX2_init_60 (by decide) (fun c12 => ?_) (fun c12 => ?_)
    · skip
      refine lv_iload_n hx hb dX2_init_68 rfl (lv_at hl 1 rfl) ?_
      refine lv_as (y := nI (clN bz)) (Int32.toInt_inj.mp (by rw [h1, nI_toInt (by omega)]; unfold clN; rw [if_neg (by omega), if_neg (by omega)]; omega)) ?_
      refine va_putF (D := D) (ci := 3) (v := .int (nI (clN bz))) (ty := .int) (C := RX2) (T := TX2) (N := 12) hx hb hts hinX2 tyX2 tyX2_ok nmX2 hown hK hP hD hS 0 rfl rfl 0 (by decide) (hts (.fieldLink RX2 25 "PuzzleBookModel" "blocks" "I") (by decide +kernel)) (fun _ h9 => h9) rfl hin rfl (by decide +kernel) rfl rfl (Nat.le_of_ble_eq_true rfl) dX2_init_69 (fun H locs hP hD hS => ?_)
      have hP : va_P D vwCl [(m0, .inr (3, [.int (nI (clN bz)), .ref q1, .int 0, .int 0, .int 0, .int 0, .ref q3, .ref q5, .int 0, .ref q7, .ref q9, .int 0])), (q1, .inl (cI, 4096, .inl (aI (fun _ => 0)))), (q3, .inl (cI, 40, .inl (aI (fun _ => 0)))), (q5, .inl (cI, 48, .inl (aI (fun _ => 0)))), (q7, .inl (cI, 129, .inl (aI (fun _ => 0)))), (q9, .inl (cI, 129, .inl (aI (fun _ => 0))))] H := hP
      have hD : va_D A [(m0, .inr (3, [.int (nI (clN bz)), .ref q1, .int 0, .int 0, .int 0, .int 0, .ref q3, .ref q5, .int 0, .ref q7, .ref q9, .int 0])), (q1, .inl (cI, 4096, .inl (aI (fun _ => 0)))), (q3, .inl (cI, 40, .inl (aI (fun _ => 0)))), (q5, .inl (cI, 48, .inl (aI (fun _ => 0)))), (q7, .inl (cI, 129, .inl (aI (fun _ => 0)))), (q9, .inl (cI, 129, .inl (aI (fun _ => 0))))] := hD
      refine lv_aload_n hx hb dX2_init_72 rfl (lv_at hl 0 rfl) ?_
      refine lv_iconst (v := nI 1) hx hb dX2_init_73 (by decide +kernel) ?_
      refine va_put (D := D) (ci := 3) (v := .int (nI 1)) (ty := .int) (C := RX2) (T := TX2) (N := 12) hx hb hts hinX2 tyX2 tyX2_ok nmX2 hown hK hP hD hS 0 rfl rfl 3 (by decide) (hts (.fieldLink RX2 29 "PuzzleBookModel" "turn" "I") (by decide +kernel)) (fun _ h9 => h9) rfl (by decide +kernel) rfl rfl (Nat.le_of_ble_eq_true rfl) dX2_init_74 (fun H locs hP hD hS => ?_)
      have hP : va_P D vwCl [(m0, .inr (3, [.int (nI (clN bz)), .ref q1, .int 0, .int (nI 1), .int 0, .int 0, .ref q3, .ref q5, .int 0, .ref q7, .ref q9, .int 0])), (q1, .inl (cI, 4096, .inl (aI (fun _ => 0)))), (q3, .inl (cI, 40, .inl (aI (fun _ => 0)))), (q5, .inl (cI, 48, .inl (aI (fun _ => 0)))), (q7, .inl (cI, 129, .inl (aI (fun _ => 0)))), (q9, .inl (cI, 129, .inl (aI (fun _ => 0))))] H := hP
      have hD : va_D A [(m0, .inr (3, [.int (nI (clN bz)), .ref q1, .int 0, .int (nI 1), .int 0, .int 0, .ref q3, .ref q5, .int 0, .ref q7, .ref q9, .int 0])), (q1, .inl (cI, 4096, .inl (aI (fun _ => 0)))), (q3, .inl (cI, 40, .inl (aI (fun _ => 0)))), (q5, .inl (cI, 48, .inl (aI (fun _ => 0)))), (q7, .inl (cI, 129, .inl (aI (fun _ => 0)))), (q9, .inl (cI, 129, .inl (aI (fun _ => 0))))] := hD
      refine lv_aload_n hx hb dX2_init_77 rfl (lv_at hl 0 rfl) ?_
      refine lv_iconst (v := nI 1) hx hb dX2_init_78 (by decide +kernel) ?_
      refine va_put (D := D) (ci := 3) (v := .int (nI 1)) (ty := .boolean) (C := RX2) (T := TX2) (N := 12) hx hb hts hinX2 tyX2 tyX2_ok nmX2 hown hK hP hD hS 0 rfl rfl 2 (by decide) (hts (.fieldLink RX2 32 "PuzzleBookModel" "open" "Z") (by decide +kernel)) (fun _ h9 => h9) rfl (by decide +kernel) (by decide +kernel) (by decide +kernel) (Nat.le_of_ble_eq_true rfl) dX2_init_79 (fun H locs hP hD hS => ?_)
      have hP : va_P D vwCl [(m0, .inr (3, [.int (nI (clN bz)), .ref q1, .int (nI 1), .int (nI 1), .int 0, .int 0, .ref q3, .ref q5, .int 0, .ref q7, .ref q9, .int 0])), (q1, .inl (cI, 4096, .inl (aI (fun _ => 0)))), (q3, .inl (cI, 40, .inl (aI (fun _ => 0)))), (q5, .inl (cI, 48, .inl (aI (fun _ => 0)))), (q7, .inl (cI, 129, .inl (aI (fun _ => 0)))), (q9, .inl (cI, 129, .inl (aI (fun _ => 0))))] H := hP
      have hD : va_D A [(m0, .inr (3, [.int (nI (clN bz)), .ref q1, .int (nI 1), .int (nI 1), .int 0, .int 0, .ref q3, .ref q5, .int 0, .ref q7, .ref q9, .int 0])), (q1, .inl (cI, 4096, .inl (aI (fun _ => 0)))), (q3, .inl (cI, 40, .inl (aI (fun _ => 0)))), (q5, .inl (cI, 48, .inl (aI (fun _ => 0)))), (q7, .inl (cI, 129, .inl (aI (fun _ => 0)))), (q9, .inl (cI, 129, .inl (aI (fun _ => 0))))] := hD
      refine lv_aload_n hx hb dX2_init_82 rfl (lv_at hl 0 rfl) ?_
      refine lv_iconst (v := nI 1) hx hb dX2_init_83 (by decide +kernel) ?_
      refine lv_iconst (v := -1) hx hb dX2_init_84 (by decide +kernel) ?_
      have hP : va_P D vwCl (mW m0 q1 q3 q5 q7 q9 cB cI (clN bz) L0 (fun _ => 0) 0 1 1 (fun _ => 0) 0 0) H := hP
      have hD : va_D A (mW m0 q1 q3 q5 q7 q9 cB cI (clN bz) L0 (fun _ => 0) 0 1 1 (fun _ => 0) 0 0) := hD
      refine wr_V (wr := []) (wo := (mW m0 q1 q3 q5 q7 q9 cB cI (clN bz) (wR L0 1 0 (bO (fun _ => 0) 0)) (fun _ => 0) 0 1 1 (fun _ => 0) 0 0)) (As := [.int (nI 1), .int (-1)]) (rest := []) ⟨hx, hb, hml, hown, hts⟩ (c_X2_writeRoot l D m0 q1 q3 q5 q7 q9 cB cI (clN bz) L0 (fun _ => 0) 0 1 1 (fun _ => 0) 0 0 1 H.size  (Nat.zero_le _) (by decide) (by decide)) (cwV 2 hts gX2_init_X2_writeRoot rfl rfl rfl (by decide +kernel) ⟨Nat.le_of_ble_eq_true rfl, Nat.le_of_ble_eq_true rfl⟩) hK hP hD hS hA [0, 1, 2, 3, 4, 5] [] rfl rfl rfl rfl (by decide) [0, 1, 2, 3, 4, 5] rfl rfl (ci := 3) rfl rfl (q0 := 0) rfl rfl hl.1 rfl (Nat.le_of_ble_eq_true rfl) dX2_init_85 ⟨Nat.le_of_ble_eq_true rfl, Nat.le_of_ble_eq_true rfl⟩ (fun H locs hP hD hS => ?_)
      refine lv_aload_n hx hb dX2_init_88 rfl (lv_at hl 0 rfl) ?_
      refine lv_iconst (v := nI 0) hx hb dX2_init_89 (by decide +kernel) ?_
      refine lv_as (y := nI (64 * 0 + 0)) rfl ?_
      refine lv_iconst (v := nI 1) hx hb dX2_init_90 (by decide +kernel) ?_
      refine wr_V (wr := []) (wo := (mW m0 q1 q3 q5 q7 q9 cB cI (clN bz) (w1 (wR L0 1 0 (bO (fun _ => 0) 0)) (64 * 0 + 0) 1) (fun _ => 0) 0 1 1 (fun _ => 0) 0 0)) (As := [.int (nI (64 * 0 + 0)), .int (nI 1)]) (rest := []) ⟨hx, hb, hml, hown, hts⟩ (c_X2_write l D m0 q1 q3 q5 q7 q9 cB cI (clN bz) (wR L0 1 0 (bO (fun _ => 0) 0)) (fun _ => 0) 0 1 1 (fun _ => 0) 0 0 (64 * 0 + 0) 1 H.size  (by decide) (by rw [wR_c]; decide)) (cwV 2 hts gX2_init_X2_write rfl rfl rfl (by decide +kernel) ⟨Nat.le_of_ble_eq_true rfl, Nat.le_of_ble_eq_true rfl⟩) hK hP hD hS hA [0, 1, 2, 3, 4, 5] [] rfl rfl rfl rfl (by decide) [0, 1, 2, 3, 4, 5] rfl rfl (ci := 3) rfl rfl (q0 := 0) rfl rfl hl.1 rfl (Nat.le_of_ble_eq_true rfl) dX2_init_91 ⟨Nat.le_of_ble_eq_true rfl, Nat.le_of_ble_eq_true rfl⟩ (fun H locs hP hD hS => ?_)
      refine lv_aload_n hx hb dX2_init_94 rfl (lv_at hl 0 rfl) ?_
      refine lv_iconst (v := nI 0) hx hb dX2_init_95 (by decide +kernel) ?_
      refine va_put (D := D) (ci := 3) (v := .int (nI 0)) (ty := .int) (C := RX2) (T := TX2) (N := 12) hx hb hts hinX2 tyX2 tyX2_ok nmX2 hown hK hP hD hS 0 rfl rfl 11 (by decide) (hts (.fieldLink RX2 43 "PuzzleBookModel" "written" "I") (by decide +kernel)) (fun _ h9 => h9) rfl (by decide +kernel) rfl rfl (Nat.le_of_ble_eq_true rfl) dX2_init_96 (fun H locs hP hD hS => ?_)
      have hP : va_P D vwCl (mW m0 q1 q3 q5 q7 q9 cB cI (clN bz) ((w1 (wR L0 1 0 (bO (fun _ => 0) 0)) (64 * 0 + 0) 1).1, (w1 (wR L0 1 0 (bO (fun _ => 0) 0)) (64 * 0 + 0) 1).2.1, (w1 (wR L0 1 0 (bO (fun _ => 0) 0)) (64 * 0 + 0) 1).2.2.1, 0) (fun _ => 0) 0 1 1 (fun _ => 0) 0 0) H := hP
      have hD : va_D A (mW m0 q1 q3 q5 q7 q9 cB cI (clN bz) ((w1 (wR L0 1 0 (bO (fun _ => 0) 0)) (64 * 0 + 0) 1).1, (w1 (wR L0 1 0 (bO (fun _ => 0) 0)) (64 * 0 + 0) 1).2.1, (w1 (wR L0 1 0 (bO (fun _ => 0) 0)) (64 * 0 + 0) 1).2.2.1, 0) (fun _ => 0) 0 1 1 (fun _ => 0) 0 0) := hD
      refine W.widen (k := 5) (n := 4442) (by decide) (by decide) ?_
      exact W.vret hx hb hr (fun t ht hW => ⟨⟨(q1, q3, q5, q7, q9), rfl, trivial, by rw [ht]; exact hP, hD⟩, hS.F ht⟩) hS.2.2 dX2_init_99 hlocks
    · skip
      refine lv_bipush (v := nI 64) hx hb dX2_init_63 (by decide +kernel) ?_
      refine lv_goto (tgt := 69) hx hb dX2_init_65 (by decide) ?_
      refine lv_as (y := nI (clN bz)) (congrArg nI (by unfold clN; rw [if_neg (by omega), if_pos (by omega)])) ?_
      refine va_putF (D := D) (ci := 3) (v := .int (nI (clN bz))) (ty := .int) (C := RX2) (T := TX2) (N := 12) hx hb hts hinX2 tyX2 tyX2_ok nmX2 hown hK hP hD hS 0 rfl rfl 0 (by decide) (hts (.fieldLink RX2 25 "PuzzleBookModel" "blocks" "I") (by decide +kernel)) (fun _ h9 => h9) rfl hin rfl (by decide +kernel) rfl rfl (Nat.le_of_ble_eq_true rfl) dX2_init_69 (fun H locs hP hD hS => ?_)
      have hP : va_P D vwCl [(m0, .inr (3, [.int (nI (clN bz)), .ref q1, .int 0, .int 0, .int 0, .int 0, .ref q3, .ref q5, .int 0, .ref q7, .ref q9, .int 0])), (q1, .inl (cI, 4096, .inl (aI (fun _ => 0)))), (q3, .inl (cI, 40, .inl (aI (fun _ => 0)))), (q5, .inl (cI, 48, .inl (aI (fun _ => 0)))), (q7, .inl (cI, 129, .inl (aI (fun _ => 0)))), (q9, .inl (cI, 129, .inl (aI (fun _ => 0))))] H := hP
      have hD : va_D A [(m0, .inr (3, [.int (nI (clN bz)), .ref q1, .int 0, .int 0, .int 0, .int 0, .ref q3, .ref q5, .int 0, .ref q7, .ref q9, .int 0])), (q1, .inl (cI, 4096, .inl (aI (fun _ => 0)))), (q3, .inl (cI, 40, .inl (aI (fun _ => 0)))), (q5, .inl (cI, 48, .inl (aI (fun _ => 0)))), (q7, .inl (cI, 129, .inl (aI (fun _ => 0)))), (q9, .inl (cI, 129, .inl (aI (fun _ => 0))))] := hD
      refine lv_aload_n hx hb dX2_init_72 rfl (lv_at hl 0 rfl) ?_
      refine lv_iconst (v := nI 1) hx hb dX2_init_73 (by decide +kernel) ?_
      refine va_put (D := D) (ci := 3) (v := .int (nI 1)) (ty := .int) (C := RX2) (T := TX2) (N := 12) hx hb hts hinX2 tyX2 tyX2_ok nmX2 hown hK hP hD hS 0 rfl rfl 3 (by decide) (hts (.fieldLink RX2 29 "PuzzleBookModel" "turn" "I") (by decide +kernel)) (fun _ h9 => h9) rfl (by decide +kernel) rfl rfl (Nat.le_of_ble_eq_true rfl) dX2_init_74 (fun H locs hP hD hS => ?_)
      have hP : va_P D vwCl [(m0, .inr (3, [.int (nI (clN bz)), .ref q1, .int 0, .int (nI 1), .int 0, .int 0, .ref q3, .ref q5, .int 0, .ref q7, .ref q9, .int 0])), (q1, .inl (cI, 4096, .inl (aI (fun _ => 0)))), (q3, .inl (cI, 40, .inl (aI (fun _ => 0)))), (q5, .inl (cI, 48, .inl (aI (fun _ => 0)))), (q7, .inl (cI, 129, .inl (aI (fun _ => 0)))), (q9, .inl (cI, 129, .inl (aI (fun _ => 0))))] H := hP
      have hD : va_D A [(m0, .inr (3, [.int (nI (clN bz)), .ref q1, .int 0, .int (nI 1), .int 0, .int 0, .ref q3, .ref q5, .int 0, .ref q7, .ref q9, .int 0])), (q1, .inl (cI, 4096, .inl (aI (fun _ => 0)))), (q3, .inl (cI, 40, .inl (aI (fun _ => 0)))), (q5, .inl (cI, 48, .inl (aI (fun _ => 0)))), (q7, .inl (cI, 129, .inl (aI (fun _ => 0)))), (q9, .inl (cI, 129, .inl (aI (fun _ => 0))))] := hD
      refine lv_aload_n hx hb dX2_init_77 rfl (lv_at hl 0 rfl) ?_
      refine lv_iconst (v := nI 1) hx hb dX2_init_78 (by decide +kernel) ?_
      refine va_put (D := D) (ci := 3) (v := .int (nI 1)) (ty := .boolean) (C := RX2) (T := TX2) (N := 12) hx hb hts hinX2 tyX2 tyX2_ok nmX2 hown hK hP hD hS 0 rfl rfl 2 (by decide) (hts (.fieldLink RX2 32 "PuzzleBookModel" "open" "Z") (by decide +kernel)) (fun _ h9 => h9) rfl (by decide +kernel) (by decide +kernel) (by decide +kernel) (Nat.le_of_ble_eq_true rfl) dX2_init_79 (fun H locs hP hD hS => ?_)
      have hP : va_P D vwCl [(m0, .inr (3, [.int (nI (clN bz)), .ref q1, .int (nI 1), .int (nI 1), .int 0, .int 0, .ref q3, .ref q5, .int 0, .ref q7, .ref q9, .int 0])), (q1, .inl (cI, 4096, .inl (aI (fun _ => 0)))), (q3, .inl (cI, 40, .inl (aI (fun _ => 0)))), (q5, .inl (cI, 48, .inl (aI (fun _ => 0)))), (q7, .inl (cI, 129, .inl (aI (fun _ => 0)))), (q9, .inl (cI, 129, .inl (aI (fun _ => 0))))] H := hP
      have hD : va_D A [(m0, .inr (3, [.int (nI (clN bz)), .ref q1, .int (nI 1), .int (nI 1), .int 0, .int 0, .ref q3, .ref q5, .int 0, .ref q7, .ref q9, .int 0])), (q1, .inl (cI, 4096, .inl (aI (fun _ => 0)))), (q3, .inl (cI, 40, .inl (aI (fun _ => 0)))), (q5, .inl (cI, 48, .inl (aI (fun _ => 0)))), (q7, .inl (cI, 129, .inl (aI (fun _ => 0)))), (q9, .inl (cI, 129, .inl (aI (fun _ => 0))))] := hD
      refine lv_aload_n hx hb dX2_init_82 rfl (lv_at hl 0 rfl) ?_
      refine lv_iconst (v := nI 1) hx hb dX2_init_83 (by decide +kernel) ?_
      refine lv_iconst (v := -1) hx hb dX2_init_84 (by decide +kernel) ?_
      have hP : va_P D vwCl (mW m0 q1 q3 q5 q7 q9 cB cI (clN bz) L0 (fun _ => 0) 0 1 1 (fun _ => 0) 0 0) H := hP
      have hD : va_D A (mW m0 q1 q3 q5 q7 q9 cB cI (clN bz) L0 (fun _ => 0) 0 1 1 (fun _ => 0) 0 0) := hD
      refine wr_V (wr := []) (wo := (mW m0 q1 q3 q5 q7 q9 cB cI (clN bz) (wR L0 1 0 (bO (fun _ => 0) 0)) (fun _ => 0) 0 1 1 (fun _ => 0) 0 0)) (As := [.int (nI 1), .int (-1)]) (rest := []) ⟨hx, hb, hml, hown, hts⟩ (c_X2_writeRoot l D m0 q1 q3 q5 q7 q9 cB cI (clN bz) L0 (fun _ => 0) 0 1 1 (fun _ => 0) 0 0 1 H.size  (Nat.zero_le _) (by decide) (by decide)) (cwV 2 hts gX2_init_X2_writeRoot rfl rfl rfl (by decide +kernel) ⟨Nat.le_of_ble_eq_true rfl, Nat.le_of_ble_eq_true rfl⟩) hK hP hD hS hA [0, 1, 2, 3, 4, 5] [] rfl rfl rfl rfl (by decide) [0, 1, 2, 3, 4, 5] rfl rfl (ci := 3) rfl rfl (q0 := 0) rfl rfl hl.1 rfl (Nat.le_of_ble_eq_true rfl) dX2_init_85 ⟨Nat.le_of_ble_eq_true rfl, Nat.le_of_ble_eq_true rfl⟩ (fun H locs hP hD hS => ?_)
      refine lv_aload_n hx hb dX2_init_88 rfl (lv_at hl 0 rfl) ?_
      refine lv_iconst (v := nI 0) hx hb dX2_init_89 (by decide +kernel) ?_
      refine lv_as (y := nI (64 * 0 + 0)) rfl ?_
      refine lv_iconst (v := nI 1) hx hb dX2_init_90 (by decide +kernel) ?_
      refine wr_V (wr := []) (wo := (mW m0 q1 q3 q5 q7 q9 cB cI (clN bz) (w1 (wR L0 1 0 (bO (fun _ => 0) 0)) (64 * 0 + 0) 1) (fun _ => 0) 0 1 1 (fun _ => 0) 0 0)) (As := [.int (nI (64 * 0 + 0)), .int (nI 1)]) (rest := []) ⟨hx, hb, hml, hown, hts⟩ (c_X2_write l D m0 q1 q3 q5 q7 q9 cB cI (clN bz) (wR L0 1 0 (bO (fun _ => 0) 0)) (fun _ => 0) 0 1 1 (fun _ => 0) 0 0 (64 * 0 + 0) 1 H.size  (by decide) (by rw [wR_c]; decide)) (cwV 2 hts gX2_init_X2_write rfl rfl rfl (by decide +kernel) ⟨Nat.le_of_ble_eq_true rfl, Nat.le_of_ble_eq_true rfl⟩) hK hP hD hS hA [0, 1, 2, 3, 4, 5] [] rfl rfl rfl rfl (by decide) [0, 1, 2, 3, 4, 5] rfl rfl (ci := 3) rfl rfl (q0 := 0) rfl rfl hl.1 rfl (Nat.le_of_ble_eq_true rfl) dX2_init_91 ⟨Nat.le_of_ble_eq_true rfl, Nat.le_of_ble_eq_true rfl⟩ (fun H locs hP hD hS => ?_)
      refine lv_aload_n hx hb dX2_init_94 rfl (lv_at hl 0 rfl) ?_
      refine lv_iconst (v := nI 0) hx hb dX2_init_95 (by decide +kernel) ?_
      refine va_put (D := D) (ci := 3) (v := .int (nI 0)) (ty := .int) (C := RX2) (T := TX2) (N := 12) hx hb hts hinX2 tyX2 tyX2_ok nmX2 hown hK hP hD hS 0 rfl rfl 11 (by decide) (hts (.fieldLink RX2 43 "PuzzleBookModel" "written" "I") (by decide +kernel)) (fun _ h9 => h9) rfl (by decide +kernel) rfl rfl (Nat.le_of_ble_eq_true rfl) dX2_init_96 (fun H locs hP hD hS => ?_)
      have hP : va_P D vwCl (mW m0 q1 q3 q5 q7 q9 cB cI (clN bz) ((w1 (wR L0 1 0 (bO (fun _ => 0) 0)) (64 * 0 + 0) 1).1, (w1 (wR L0 1 0 (bO (fun _ => 0) 0)) (64 * 0 + 0) 1).2.1, (w1 (wR L0 1 0 (bO (fun _ => 0) 0)) (64 * 0 + 0) 1).2.2.1, 0) (fun _ => 0) 0 1 1 (fun _ => 0) 0 0) H := hP
      have hD : va_D A (mW m0 q1 q3 q5 q7 q9 cB cI (clN bz) ((w1 (wR L0 1 0 (bO (fun _ => 0) 0)) (64 * 0 + 0) 1).1, (w1 (wR L0 1 0 (bO (fun _ => 0) 0)) (64 * 0 + 0) 1).2.1, (w1 (wR L0 1 0 (bO (fun _ => 0) 0)) (64 * 0 + 0) 1).2.2.1, 0) (fun _ => 0) 0 1 1 (fun _ => 0) 0 0) := hD
      refine W.widen (k := 5) (n := 4442) (by decide) (by decide) ?_
      exact W.vret hx hb hr (fun t ht hW => ⟨⟨(q1, q3, q5, q7, q9), rfl, trivial, by rw [ht]; exact hP, hD⟩, hS.F ht⟩) hS.2.2 dX2_init_99 hlocks
  · skip
    refine lv_iconst (v := nI 4) hx hb dX2_init_53 (by decide +kernel) ?_
    refine lv_goto (tgt := 69) hx hb dX2_init_54 (by decide) ?_
    refine lv_as (y := nI (clN bz)) (congrArg nI (by unfold clN; rw [if_pos (by omega)])) ?_
    refine va_putF (D := D) (ci := 3) (v := .int (nI (clN bz))) (ty := .int) (C := RX2) (T := TX2) (N := 12) hx hb hts hinX2 tyX2 tyX2_ok nmX2 hown hK hP hD hS 0 rfl rfl 0 (by decide) (hts (.fieldLink RX2 25 "PuzzleBookModel" "blocks" "I") (by decide +kernel)) (fun _ h9 => h9) rfl hin rfl (by decide +kernel) rfl rfl (Nat.le_of_ble_eq_true rfl) dX2_init_69 (fun H locs hP hD hS => ?_)
    have hP : va_P D vwCl [(m0, .inr (3, [.int (nI (clN bz)), .ref q1, .int 0, .int 0, .int 0, .int 0, .ref q3, .ref q5, .int 0, .ref q7, .ref q9, .int 0])), (q1, .inl (cI, 4096, .inl (aI (fun _ => 0)))), (q3, .inl (cI, 40, .inl (aI (fun _ => 0)))), (q5, .inl (cI, 48, .inl (aI (fun _ => 0)))), (q7, .inl (cI, 129, .inl (aI (fun _ => 0)))), (q9, .inl (cI, 129, .inl (aI (fun _ => 0))))] H := hP
    have hD : va_D A [(m0, .inr (3, [.int (nI (clN bz)), .ref q1, .int 0, .int 0, .int 0, .int 0, .ref q3, .ref q5, .int 0, .ref q7, .ref q9, .int 0])), (q1, .inl (cI, 4096, .inl (aI (fun _ => 0)))), (q3, .inl (cI, 40, .inl (aI (fun _ => 0)))), (q5, .inl (cI, 48, .inl (aI (fun _ => 0)))), (q7, .inl (cI, 129, .inl (aI (fun _ => 0)))), (q9, .inl (cI, 129, .inl (aI (fun _ => 0))))] := hD
    refine lv_aload_n hx hb dX2_init_72 rfl (lv_at hl 0 rfl) ?_
    refine lv_iconst (v := nI 1) hx hb dX2_init_73 (by decide +kernel) ?_
    refine va_put (D := D) (ci := 3) (v := .int (nI 1)) (ty := .int) (C := RX2) (T := TX2) (N := 12) hx hb hts hinX2 tyX2 tyX2_ok nmX2 hown hK hP hD hS 0 rfl rfl 3 (by decide) (hts (.fieldLink RX2 29 "PuzzleBookModel" "turn" "I") (by decide +kernel)) (fun _ h9 => h9) rfl (by decide +kernel) rfl rfl (Nat.le_of_ble_eq_true rfl) dX2_init_74 (fun H locs hP hD hS => ?_)
    have hP : va_P D vwCl [(m0, .inr (3, [.int (nI (clN bz)), .ref q1, .int 0, .int (nI 1), .int 0, .int 0, .ref q3, .ref q5, .int 0, .ref q7, .ref q9, .int 0])), (q1, .inl (cI, 4096, .inl (aI (fun _ => 0)))), (q3, .inl (cI, 40, .inl (aI (fun _ => 0)))), (q5, .inl (cI, 48, .inl (aI (fun _ => 0)))), (q7, .inl (cI, 129, .inl (aI (fun _ => 0)))), (q9, .inl (cI, 129, .inl (aI (fun _ => 0))))] H := hP
    have hD : va_D A [(m0, .inr (3, [.int (nI (clN bz)), .ref q1, .int 0, .int (nI 1), .int 0, .int 0, .ref q3, .ref q5, .int 0, .ref q7, .ref q9, .int 0])), (q1, .inl (cI, 4096, .inl (aI (fun _ => 0)))), (q3, .inl (cI, 40, .inl (aI (fun _ => 0)))), (q5, .inl (cI, 48, .inl (aI (fun _ => 0)))), (q7, .inl (cI, 129, .inl (aI (fun _ => 0)))), (q9, .inl (cI, 129, .inl (aI (fun _ => 0))))] := hD
    refine lv_aload_n hx hb dX2_init_77 rfl (lv_at hl 0 rfl) ?_
    refine lv_iconst (v := nI 1) hx hb dX2_init_78 (by decide +kernel) ?_
    refine va_put (D := D) (ci := 3) (v := .int (nI 1)) (ty := .boolean) (C := RX2) (T := TX2) (N := 12) hx hb hts hinX2 tyX2 tyX2_ok nmX2 hown hK hP hD hS 0 rfl rfl 2 (by decide) (hts (.fieldLink RX2 32 "PuzzleBookModel" "open" "Z") (by decide +kernel)) (fun _ h9 => h9) rfl (by decide +kernel) (by decide +kernel) (by decide +kernel) (Nat.le_of_ble_eq_true rfl) dX2_init_79 (fun H locs hP hD hS => ?_)
    have hP : va_P D vwCl [(m0, .inr (3, [.int (nI (clN bz)), .ref q1, .int (nI 1), .int (nI 1), .int 0, .int 0, .ref q3, .ref q5, .int 0, .ref q7, .ref q9, .int 0])), (q1, .inl (cI, 4096, .inl (aI (fun _ => 0)))), (q3, .inl (cI, 40, .inl (aI (fun _ => 0)))), (q5, .inl (cI, 48, .inl (aI (fun _ => 0)))), (q7, .inl (cI, 129, .inl (aI (fun _ => 0)))), (q9, .inl (cI, 129, .inl (aI (fun _ => 0))))] H := hP
    have hD : va_D A [(m0, .inr (3, [.int (nI (clN bz)), .ref q1, .int (nI 1), .int (nI 1), .int 0, .int 0, .ref q3, .ref q5, .int 0, .ref q7, .ref q9, .int 0])), (q1, .inl (cI, 4096, .inl (aI (fun _ => 0)))), (q3, .inl (cI, 40, .inl (aI (fun _ => 0)))), (q5, .inl (cI, 48, .inl (aI (fun _ => 0)))), (q7, .inl (cI, 129, .inl (aI (fun _ => 0)))), (q9, .inl (cI, 129, .inl (aI (fun _ => 0))))] := hD
    refine lv_aload_n hx hb dX2_init_82 rfl (lv_at hl 0 rfl) ?_
    refine lv_iconst (v := nI 1) hx hb dX2_init_83 (by decide +kernel) ?_
    refine lv_iconst (v := -1) hx hb dX2_init_84 (by decide +kernel) ?_
    have hP : va_P D vwCl (mW m0 q1 q3 q5 q7 q9 cB cI (clN bz) L0 (fun _ => 0) 0 1 1 (fun _ => 0) 0 0) H := hP
    have hD : va_D A (mW m0 q1 q3 q5 q7 q9 cB cI (clN bz) L0 (fun _ => 0) 0 1 1 (fun _ => 0) 0 0) := hD
    refine wr_V (wr := []) (wo := (mW m0 q1 q3 q5 q7 q9 cB cI (clN bz) (wR L0 1 0 (bO (fun _ => 0) 0)) (fun _ => 0) 0 1 1 (fun _ => 0) 0 0)) (As := [.int (nI 1), .int (-1)]) (rest := []) ⟨hx, hb, hml, hown, hts⟩ (c_X2_writeRoot l D m0 q1 q3 q5 q7 q9 cB cI (clN bz) L0 (fun _ => 0) 0 1 1 (fun _ => 0) 0 0 1 H.size  (Nat.zero_le _) (by decide) (by decide)) (cwV 2 hts gX2_init_X2_writeRoot rfl rfl rfl (by decide +kernel) ⟨Nat.le_of_ble_eq_true rfl, Nat.le_of_ble_eq_true rfl⟩) hK hP hD hS hA [0, 1, 2, 3, 4, 5] [] rfl rfl rfl rfl (by decide) [0, 1, 2, 3, 4, 5] rfl rfl (ci := 3) rfl rfl (q0 := 0) rfl rfl hl.1 rfl (Nat.le_of_ble_eq_true rfl) dX2_init_85 ⟨Nat.le_of_ble_eq_true rfl, Nat.le_of_ble_eq_true rfl⟩ (fun H locs hP hD hS => ?_)
    refine lv_aload_n hx hb dX2_init_88 rfl (lv_at hl 0 rfl) ?_
    refine lv_iconst (v := nI 0) hx hb dX2_init_89 (by decide +kernel) ?_
    refine lv_as (y := nI (64 * 0 + 0)) rfl ?_
    refine lv_iconst (v := nI 1) hx hb dX2_init_90 (by decide +kernel) ?_
    refine wr_V (wr := []) (wo := (mW m0 q1 q3 q5 q7 q9 cB cI (clN bz) (w1 (wR L0 1 0 (bO (fun _ => 0) 0)) (64 * 0 + 0) 1) (fun _ => 0) 0 1 1 (fun _ => 0) 0 0)) (As := [.int (nI (64 * 0 + 0)), .int (nI 1)]) (rest := []) ⟨hx, hb, hml, hown, hts⟩ (c_X2_write l D m0 q1 q3 q5 q7 q9 cB cI (clN bz) (wR L0 1 0 (bO (fun _ => 0) 0)) (fun _ => 0) 0 1 1 (fun _ => 0) 0 0 (64 * 0 + 0) 1 H.size  (by decide) (by rw [wR_c]; decide)) (cwV 2 hts gX2_init_X2_write rfl rfl rfl (by decide +kernel) ⟨Nat.le_of_ble_eq_true rfl, Nat.le_of_ble_eq_true rfl⟩) hK hP hD hS hA [0, 1, 2, 3, 4, 5] [] rfl rfl rfl rfl (by decide) [0, 1, 2, 3, 4, 5] rfl rfl (ci := 3) rfl rfl (q0 := 0) rfl rfl hl.1 rfl (Nat.le_of_ble_eq_true rfl) dX2_init_91 ⟨Nat.le_of_ble_eq_true rfl, Nat.le_of_ble_eq_true rfl⟩ (fun H locs hP hD hS => ?_)
    refine lv_aload_n hx hb dX2_init_94 rfl (lv_at hl 0 rfl) ?_
    refine lv_iconst (v := nI 0) hx hb dX2_init_95 (by decide +kernel) ?_
    refine va_put (D := D) (ci := 3) (v := .int (nI 0)) (ty := .int) (C := RX2) (T := TX2) (N := 12) hx hb hts hinX2 tyX2 tyX2_ok nmX2 hown hK hP hD hS 0 rfl rfl 11 (by decide) (hts (.fieldLink RX2 43 "PuzzleBookModel" "written" "I") (by decide +kernel)) (fun _ h9 => h9) rfl (by decide +kernel) rfl rfl (Nat.le_of_ble_eq_true rfl) dX2_init_96 (fun H locs hP hD hS => ?_)
    have hP : va_P D vwCl (mW m0 q1 q3 q5 q7 q9 cB cI (clN bz) ((w1 (wR L0 1 0 (bO (fun _ => 0) 0)) (64 * 0 + 0) 1).1, (w1 (wR L0 1 0 (bO (fun _ => 0) 0)) (64 * 0 + 0) 1).2.1, (w1 (wR L0 1 0 (bO (fun _ => 0) 0)) (64 * 0 + 0) 1).2.2.1, 0) (fun _ => 0) 0 1 1 (fun _ => 0) 0 0) H := hP
    have hD : va_D A (mW m0 q1 q3 q5 q7 q9 cB cI (clN bz) ((w1 (wR L0 1 0 (bO (fun _ => 0) 0)) (64 * 0 + 0) 1).1, (w1 (wR L0 1 0 (bO (fun _ => 0) 0)) (64 * 0 + 0) 1).2.1, (w1 (wR L0 1 0 (bO (fun _ => 0) 0)) (64 * 0 + 0) 1).2.2.1, 0) (fun _ => 0) 0 1 1 (fun _ => 0) 0 0) := hD
    refine W.widen (k := 5) (n := 4442) (by decide) (by decide) ?_
    exact W.vret hx hb hr (fun t ht hW => ⟨⟨(q1, q3, q5, q7, q9), rfl, trivial, by rw [ht]; exact hP, hD⟩, hS.F ht⟩) hS.2.2 dX2_init_99 hlocks
