/-! 15: the constructors (laid by wip/whole/gen/gen_init.py) -/
/-- so many blocks: held to 4 to 64 -/
def clN (z : Int) : Nat := if z < 4 then 4 else if 64 < z then 64 else z.toNat
theorem clN_in (z : Int) : 4 ≤ clN z ∧ clN z ≤ 64 := by
  unfold clN; split
  · omega
  · split <;> omega
theorem clN_mm {bv : Int32} {bz : Int} (h : bv.toInt = bz) : (if nI 4 < (if bv < nI 64 then bv else nI 64) then (if bv < nI 64 then bv else nI 64) else nI 4) = nI (clN bz) := by
  have e4 : (nI 4).toInt = 4 := by decide +kernel
  have e64 : (nI 64).toInt = 64 := by decide +kernel
  by_cases q : bz < 64
  · have hm : (if bv < nI 64 then bv else nI 64) = bv := if_pos (Int32.lt_iff_toInt_lt.mpr (by rw [h, e64]; exact q))
    rw [hm]
    by_cases q2 : 4 < bz
    · rw [if_pos (Int32.lt_iff_toInt_lt.mpr (by rw [h, e4]; exact q2))]
      apply Int32.toInt_inj.mp
      have hc : clN bz = bz.toNat := by unfold clN; rw [if_neg (by omega), if_neg (by omega)]
      rw [h, hc, nI_toInt (by omega)]; omega
    · rw [if_neg (fun z => q2 (by have := Int32.lt_iff_toInt_lt.mp z; rw [h, e4] at this; exact this))]
      have hc : clN bz = 4 := by
        unfold clN
        by_cases q3 : bz < 4
        · rw [if_pos q3]
        · rw [if_neg q3, if_neg (by omega)]; omega
      rw [hc]
  · have hm : (if bv < nI 64 then bv else nI 64) = nI 64 := if_neg (fun z => q (by have := Int32.lt_iff_toInt_lt.mp z; rw [h, e64] at this; exact this))
    rw [hm, if_pos (Int32.lt_iff_toInt_lt.mpr (by rw [e4, e64]; decide))]
    have hc : clN bz = 64 := by
      unfold clN
      rw [if_neg (by omega)]
      by_cases q3 : 64 < bz
      · rw [if_pos q3]
      · rw [if_neg q3]; omega
    rw [hc]
def L0 : Lg := (fun _ => 0, fun _ => 0, fun _ => 0, 0)
theorem ty_eq {D : va_G} {cl : List vw_C} {tys : List (ClassId × FieldType)} {U : State} (h : va_K D cl tys U) (i j : Nat) {a b : ClassId} (ha : tys[i]? = some (a, .int)) (hb : tys[j]? = some (b, .int)) : a = b := by
  have h1 := va_nm_int (h.2 i _ ha).2
  have h2 := va_nm_int (h.2 j _ hb).2
  exact Option.some.inj (h1.symm.trans h2)
theorem ty_eqB {D : va_G} {cl : List vw_C} {tys : List (ClassId × FieldType)} {U : State} (h : va_K D cl tys U) (i j : Nat) {a b : ClassId} (ha : tys[i]? = some (a, .byte)) (hb : tys[j]? = some (b, .byte)) : a = b := by
  have h1 := va_nm_byte (h.2 i _ ha).2
  have h2 := va_nm_byte (h.2 j _ hb).2
  exact Option.some.inj (h1.symm.trans h2)
theorem cellB0 (n : Nat) (cA : ClassId) : vp_cell cA (n, .inl (aB (fun _ => 0))) = arrV cA n (fun _ => defaultValue .byte) := by
  rw [vp_cell_i]
  have : (fun j => Value.int (aB (fun _ => 0) j)) = (fun _ : Nat => defaultValue .byte) := by funext j; show Value.int (bb 0) = _; rw [bb_0]; rfl
  rw [this]
theorem cellI0 (n : Nat) (cA : ClassId) : vp_cell cA (n, .inl (aI (fun _ => 0))) = arrV cA n (fun _ => defaultValue .int) := by
  rw [vp_cell_i]
  have : (fun j => Value.int (aI (fun _ => 0) j)) = (fun _ : Nat => defaultValue .int) := by funext j; show Value.int (nI 0) = _; rw [nI_0]; rfl
  rw [this]
/-- a constructor's head -/
theorem met_c {l : Launch} {y : MethodName} {ws ws' : List Cond} {rm : Room} {cc : ByteArray} {maxL : Nat} {ret : Option FieldType} {av : List Value} {D : va_G} {w : va_W} {tys : List (ClassId × FieldType)} {sz mc ms : Nat} {S : Type} {B : S → (Nat → Prop) → State → Prop} (hy : plainName y.cls = true) (hw : ws = .code y cc maxL ret :: ws') (hlen : (lg_sl av).length ≤ maxL) (hyn : y.name = "<init>")
    (body : ∀ (p : Program) (e : Env) (s : State) (m : MethodId) (below : List Frame) (meth : Method) (c : Code), p.tables.exec = Jvm.exec → c.code = cc → c.maxLocals = maxL → meth.sig.returnType = ret → meth.locks = false → meth.name = "<init>" → s.vm.findClass y.cls = some m.cls → (∀ x ∈ ws, x.before av.toArray s = true) → va_P D vwCl w s.heap → va_K D vwCl tys s → ∀ A : Nat → Prop, va_D A w → (∀ q : Nat, s.heap.size ≤ q → A q) → va_S A s.heap s.heap [] → ∀ ls : Array Slot, lv_has ls maxL (lv_args 0 av) →
      W p l e rm s m av.toArray below meth c s.heap [] 0 0 (MQ below (va_Qv (fun _ : S => True) (fun u t => B u A t) A) av.toArray s mc ms A) (F0 m 0 ls [])) : Met l y ws rm (wP av D w tys sz) (va_Qv (fun _ : S => True) (fun u t => B u (va_A w sz) t) (va_A w sz)) mc ms (va_A w sz) := by
  refine Met.ofW (cc := cc) (maxL := maxL) (ret := ret) hy hw ?_
  intro p e s m args below meth c s₁ B0 hml hv
  obtain ⟨rfl, hsz, hP, hK, hD0⟩ := hv
  subst hsz
  have hl := lv_entry av hlen
  rw [lg_entry_eq]
  exact body p e s m below meth c B0.exec B0.bytes hml B0.returns B0.notSynchronized ((name_of_methodNamed B0.named B0.method).1.trans hyn) (findClass_of_methodNamed B0.named) (atoms_spec (ws := ws) B0.pre) hP hK _ (hD0.self (sz := s.heap.size)) (fun q h => Or.inr h) va_S.rf _ hl
section CI
variable {p : Program} {l : Launch} {e : Env} {R : Room} {s : State} {m : MethodId} {args : Array Value} {below : List Frame} {meth : Method} {c : Code} {H : Heap} {locs : List Loc} {cells slots : Nat} {Q : State → Prop}
variable {y : MethodName} {bytes cc : ByteArray} {maxL nL n index pc mc ms : Nat} {ws : List Cond} {rm : Room} {Ts : List Cond} {own : String} {b : Addr} {As rest st0 : List Value} {ls : Array Slot} {D : va_G} {w wc wr : va_W} {tys : List (ClassId × FieldType)} {A : Nat → Prop}
/-- a constructor's call: the new object's world beside the others -/
theorem cr_I {S : Type} {B : S → (Nat → Prop) → State → Prop} {w1 : S → va_W} (S0 : CallFix p m c cc nL s args Ts own) (hM : Met l y ws rm (wP (.ref b :: As) D wc tys H.size) (va_Qv (fun _ : S => True) (fun u t => B u (va_A wc H.size) t) (va_A wc H.size)) mc ms (va_A wc H.size)) (cw : CallB R s args own index y bytes maxL none ws rm mc ms n ∧ y.name = "<init>" ∧ (Cond.instanceMethod y).before args s = true)
    (hK : va_K D vwCl tys s) (hP : va_P D vwCl w H) (hD : va_D A w) (hS : va_S A s.heap H locs) (hA : ∀ q : Nat, s.heap.size ≤ q → A q) (isC isR : List Nat) (hC : isC.map (fun i => w[i]?) = wc.map some) (hcn : va_nd isC = true) (hR : isR.map (fun i => w[i]?) = wr.map some) (hn1 : va_nd isR = true) (hdis : ∀ i ∈ isR, i ∉ isC)
    (hB : ∀ (u : S) (A' : Nat → Prop) (t : State), B u A' t → va_P D vwCl (w1 u) t.heap ∧ va_D A' (w1 u))
    (hn : As.length = n) (hsize : ls.size = nL) (hstack : st0 = As.reverse ++ .ref b :: rest) (hW : (rest.map fun v => v.category).sum ≤ 8) (hdg : decode cc pc = .ok (.invokespecial index, 3)) (hf : cells + mc ≤ R.cells ∧ slots + ms ≤ R.slots)
    (kk : ∀ (u : S) (A' : Nat → Prop) (t : State) (H1 : Heap) (locs1 : List Loc), s.vm.Alike t.vm → B u A' t → va_P D vwCl (wr ++ w1 u) H1 → va_D A (wr ++ w1 u) → va_S A s.heap H1 locs1 → W p l e R s m args below meth c H1 locs1 (cells + mc) (slots + ms) Q (F0 m (pc + 3) ls rest)) : W p l e R s m args below meth c H locs cells slots Q (F0 m pc ls st0) := by
  have hFc := va_free (wc := wc) hD hS hA isC hC
  refine va_callv (va_runI S0 hM cw ⟨wP_blind, fun U hU hW => ⟨rfl, by rw [hU], by rw [hU]; exact hP.sub isC (map_fm hC), va_K.moved hW.alike hK, (hD.sub isC hcn hC).weaken (fun _ _ _ _ => trivial)⟩⟩ rfl hn hsize hstack (lv_room hW) hdg hf) hS (fun q _ h => hFc q h) hFc (fun u t H1 locs1 ht hvm hw hB0 hz1 hk1 hS1 => ?_)
  obtain ⟨hP1, hD1⟩ := hB u _ t hB0
  rw [ht] at hP1
  obtain ⟨hP2, hD2⟩ := va_join hP hD isC isR hC hR hn1 hdis hk1 hFc hP1 hD1
  exact kk u _ t H1 locs1 hvm hB0 hP2 hD2 hS1
end CI
/-- a new Store -/
def stB (D : va_G) (a0 : Nat) (bz : Int) (u : Nat × Nat × Nat × ClassId × ClassId) (A : Nat → Prop) (t : State) : Prop := va_P D vwCl (sW a0 u.1 u.2.1 u.2.2.1 u.2.2.2.1 u.2.2.2.2 (clN bz) L0) t.heap ∧ va_K D vwCl (ty2 u.2.2.2.1 u.2.2.2.2) t ∧ va_D A (sW a0 u.1 u.2.1 u.2.2.1 u.2.2.2.1 u.2.2.2.2 (clN bz) L0)
set_option maxRecDepth 100000 in
set_option maxHeartbeats 4000000 in
theorem c_X0_init (l : Launch) (D : va_G) (a0 : Nat) (bv : Int32) (bz : Int) (sz : Nat) (h1 : bv.toInt = bz) : Met l yX0_init wsX0_init ({ frames := 1, cells := 3, slots := 4354, locals := 40 }) (wP [.ref a0, .int bv] D [(a0, .inr (1, [.int 0, .null, .null, .null, .int 0]))] [] sz) (va_Qv (fun _ : Nat × Nat × Nat × ClassId × ClassId => True) (fun u t => stB D a0 bz u (va_A [(a0, .inr (1, [.int 0, .null, .null, .null, .int 0]))] sz) t) (va_A [(a0, .inr (1, [.int 0, .null, .null, .null, .int 0]))] sz)) 3 4354 (va_A [(a0, .inr (1, [.int 0, .null, .null, .null, .int 0]))] sz) := by
  refine met_c (B := stB D a0 bz) (by decide) rfl (Nat.le_of_ble_eq_true rfl) rfl ?_
  intro p e s m below meth c hx hb hml hr hlocks hin hown hts hP hK A hD hA hS ls hl
  have hown : s.vm.findClass RX0 = some m.cls := hown
  have hinX0 : ∀ w ∈ u_ws RX0 TX0 5, w ∈ wsX0_init := by decide +kernel
  have hl : lv_has ls 2 [(0, .ref a0), (1, .int bv)] := hl
  have hcl := clN_in bz
  refine lv_aload_n hx hb dX0_init_0 rfl (lv_at hl 0 rfl) ?_
  refine W.objInit hx hb hown (hts (.methodLink RX0 3 objectInit) (by decide +kernel)) (hts (.instanceMethod objectInit) (by decide +kernel)) (hts (.code objectInit ⟨#[0xb1]⟩ 1 none) (by decide +kernel)) rfl (by rw [hml]; exact hl.1) rfl dX0_init_1 (Nat.le_of_ble_eq_true rfl) (Nat.le_of_ble_eq_true rfl) ?_
  refine W.eq (g2 := F0 m 4 ls []) rfl ?_
  refine lv_aload_n hx hb dX0_init_4 rfl (lv_at hl 0 rfl) ?_
  refine lv_sipush (v := nI 129) hx hb dX0_init_5 (by decide +kernel) ?_
  refine va_newa (atype := .int) (ty := .int) (N' := 129) (a0 := (129, .inl (aI (fun _ => 0)))) hx hb (hts (.arrayClass .int) (by decide +kernel)) rfl hK hP hD hS hA (cellI0 129) (nI_pos (n := 129) (by decide)) (nI_clamp (n := 129) (by decide)) (by show 129 * 4 ≤ 536870912; omega) (Nat.le_of_ble_eq_true rfl) (Nat.le_of_ble_eq_true rfl) dX0_init_8 (fun q1 cA2 H hK hP hD hS => ?_)
  have hK : va_K D vwCl [(cA2, .int)] s := hK
  have hP : va_P D vwCl [(a0, .inr (1, [.int 0, .null, .null, .null, .int 0])), (q1, .inl (cA2, 129, .inl (aI (fun _ => 0))))] H := hP
  have hD : va_D A [(a0, .inr (1, [.int 0, .null, .null, .null, .int 0])), (q1, .inl (cA2, 129, .inl (aI (fun _ => 0))))] := hD
  refine va_putF (D := D) (ci := 1) (v := .ref q1) (ty := .array .int) (C := RX0) (T := TX0) (N := 5) hx hb hts hinX0 tyX0 tyX0_ok nmX0 hown hK hP hD hS 0 rfl rfl 2 (by decide) (hts (.fieldLink RX0 9 "PuzzleBook$Store" "changedPlaces" "[I") (by decide +kernel)) (fun _ h9 => h9) rfl hin rfl (by decide +kernel) rfl rfl (Nat.le_of_ble_eq_true rfl) dX0_init_10 (fun H locs hP hD hS => ?_)
  have hP : va_P D vwCl [(a0, .inr (1, [.int 0, .null, .ref q1, .null, .int 0])), (q1, .inl (cA2, 129, .inl (aI (fun _ => 0))))] H := hP
  have hD : va_D A [(a0, .inr (1, [.int 0, .null, .ref q1, .null, .int 0])), (q1, .inl (cA2, 129, .inl (aI (fun _ => 0))))] := hD
  refine lv_aload_n hx hb dX0_init_13 rfl (lv_at hl 0 rfl) ?_
  refine lv_sipush (v := nI 129) hx hb dX0_init_14 (by decide +kernel) ?_
  refine va_newa (atype := .byte) (ty := .byte) (N' := 129) (a0 := (129, .inl (aB (fun _ => 0)))) hx hb (hts (.arrayClass .byte) (by decide +kernel)) rfl hK hP hD hS hA (cellB0 129) (nI_pos (n := 129) (by decide)) (nI_clamp (n := 129) (by decide)) (by show 129 * 1 ≤ 536870912; omega) (Nat.le_of_ble_eq_true rfl) (Nat.le_of_ble_eq_true rfl) dX0_init_17 (fun q3 cA4 H hK hP hD hS => ?_)
  have hK : va_K D vwCl [(cA2, .int), (cA4, .byte)] s := hK
  have hP : va_P D vwCl [(a0, .inr (1, [.int 0, .null, .ref q1, .null, .int 0])), (q1, .inl (cA2, 129, .inl (aI (fun _ => 0)))), (q3, .inl (cA4, 129, .inl (aB (fun _ => 0))))] H := hP
  have hD : va_D A [(a0, .inr (1, [.int 0, .null, .ref q1, .null, .int 0])), (q1, .inl (cA2, 129, .inl (aI (fun _ => 0)))), (q3, .inl (cA4, 129, .inl (aB (fun _ => 0))))] := hD
  refine va_putF (D := D) (ci := 1) (v := .ref q3) (ty := .array .byte) (C := RX0) (T := TX0) (N := 5) hx hb hts hinX0 tyX0 tyX0_ok nmX0 hown hK hP hD hS 0 rfl rfl 3 (by decide) (hts (.fieldLink RX0 15 "PuzzleBook$Store" "formerBytes" "[B") (by decide +kernel)) (fun _ h9 => h9) rfl hin rfl (by decide +kernel) rfl rfl (Nat.le_of_ble_eq_true rfl) dX0_init_19 (fun H locs hP hD hS => ?_)
  have hP : va_P D vwCl [(a0, .inr (1, [.int 0, .null, .ref q1, .ref q3, .int 0])), (q1, .inl (cA2, 129, .inl (aI (fun _ => 0)))), (q3, .inl (cA4, 129, .inl (aB (fun _ => 0))))] H := hP
  have hD : va_D A [(a0, .inr (1, [.int 0, .null, .ref q1, .ref q3, .int 0])), (q1, .inl (cA2, 129, .inl (aI (fun _ => 0)))), (q3, .inl (cA4, 129, .inl (aB (fun _ => 0))))] := hD
  refine lv_aload_n hx hb dX0_init_22 rfl (lv_at hl 0 rfl) ?_
  refine lv_iconst (v := nI 0) hx hb dX0_init_23 (by decide +kernel) ?_
  refine va_put (D := D) (ci := 1) (v := .int (nI 0)) (ty := .int) (C := RX0) (T := TX0) (N := 5) hx hb hts hinX0 tyX0 tyX0_ok nmX0 hown hK hP hD hS 0 rfl rfl 4 (by decide) (hts (.fieldLink RX0 19 "PuzzleBook$Store" "changed" "I") (by decide +kernel)) (fun _ h9 => h9) rfl (by decide +kernel) rfl rfl (Nat.le_of_ble_eq_true rfl) dX0_init_24 (fun H locs hP hD hS => ?_)
  have hP : va_P D vwCl [(a0, .inr (1, [.int 0, .null, .ref q1, .ref q3, .int (nI 0)])), (q1, .inl (cA2, 129, .inl (aI (fun _ => 0)))), (q3, .inl (cA4, 129, .inl (aB (fun _ => 0))))] H := hP
  have hD : va_D A [(a0, .inr (1, [.int 0, .null, .ref q1, .ref q3, .int (nI 0)])), (q1, .inl (cA2, 129, .inl (aI (fun _ => 0)))), (q3, .inl (cA4, 129, .inl (aB (fun _ => 0))))] := hD
  refine lv_aload_n hx hb dX0_init_27 rfl (lv_at hl 0 rfl) ?_
  refine lv_iconst (v := nI 4) hx hb dX0_init_28 (by decide +kernel) ?_
  refine lv_bipush (v := nI 64) hx hb dX0_init_29 (by decide +kernel) ?_
  refine lv_iload_n hx hb dX0_init_31 rfl (lv_at hl 1 rfl) ?_
  refine va_mmin hx hb (hml.trans hl.1.symm) hown (hts (.methodLink RX0 23 Lib.Math.min.name) (by decide +kernel)) (hts (.static Lib.Math.min.name) (by decide +kernel)) (hts (.initialized "java/lang/Math") (by decide +kernel)) (hts (.code Lib.Math.min.name Lib.Math.min.code 2 (some .int)) (by decide +kernel)) (Nat.le_of_ble_eq_true rfl) (Nat.le_of_ble_eq_true rfl) (Nat.le_of_ble_eq_true rfl) (Nat.le_of_ble_eq_true rfl) dX0_init_32 ?_
  refine va_mmax hx hb (hml.trans hl.1.symm) hown (hts (.methodLink RX0 29 Lib.Math.max.name) (by decide +kernel)) (hts (.static Lib.Math.max.name) (by decide +kernel)) (hts (.initialized "java/lang/Math") (by decide +kernel)) (hts (.code Lib.Math.max.name Lib.Math.max.code 2 (some .int)) (by decide +kernel)) (Nat.le_of_ble_eq_true rfl) (Nat.le_of_ble_eq_true rfl) (Nat.le_of_ble_eq_true rfl) (Nat.le_of_ble_eq_true rfl) dX0_init_35 ?_
  refine lv_as (y := nI (clN bz)) (clN_mm h1) ?_
  refine va_putF (D := D) (ci := 1) (v := .int (nI (clN bz))) (ty := .int) (C := RX0) (T := TX0) (N := 5) hx hb hts hinX0 tyX0 tyX0_ok nmX0 hown hK hP hD hS 0 rfl rfl 0 (by decide) (hts (.fieldLink RX0 32 "PuzzleBook$Store" "blocks" "I") (by decide +kernel)) (fun _ h9 => h9) rfl hin rfl (by decide +kernel) rfl rfl (Nat.le_of_ble_eq_true rfl) dX0_init_38 (fun H locs hP hD hS => ?_)
  have hP : va_P D vwCl [(a0, .inr (1, [.int (nI (clN bz)), .null, .ref q1, .ref q3, .int (nI 0)])), (q1, .inl (cA2, 129, .inl (aI (fun _ => 0)))), (q3, .inl (cA4, 129, .inl (aB (fun _ => 0))))] H := hP
  have hD : va_D A [(a0, .inr (1, [.int (nI (clN bz)), .null, .ref q1, .ref q3, .int (nI 0)])), (q1, .inl (cA2, 129, .inl (aI (fun _ => 0)))), (q3, .inl (cA4, 129, .inl (aB (fun _ => 0))))] := hD
  refine lv_aload_n hx hb dX0_init_41 rfl (lv_at hl 0 rfl) ?_
  refine lv_aload_n hx hb dX0_init_42 rfl (lv_at hl 0 rfl) ?_
  refine va_get (D := D) (ci := 1) (v := .int (nI (clN bz))) (C := RX0) (T := TX0) (N := 5) hx hb hts hinX0 hown hK hP 0 rfl rfl 0 (by decide) (hts (.fieldLink RX0 32 "PuzzleBook$Store" "blocks" "I") (by decide +kernel)) (fun _ h9 => h9) rfl dX0_init_43 ?_
  refine lv_bipush (v := nI 64) hx hb dX0_init_46 (by decide +kernel) ?_
  refine lv_imul hx hb dX0_init_48 ?_
  refine lv_as (y := nI (64 * (clN bz))) ((pk_mul _ _).trans (congrArg nI (Nat.mul_comm _ _))) ?_
  refine va_newa (atype := .byte) (ty := .byte) (N' := 64 * (clN bz)) (a0 := (64 * (clN bz), .inl (aB (fun _ => 0)))) hx hb (hts (.arrayClass .byte) (by decide +kernel)) rfl hK hP hD hS hA (cellB0 (64 * (clN bz))) (nI_pos (n := 64 * (clN bz)) (by omega)) (nI_clamp (n := 64 * (clN bz)) (by omega)) (by show 64 * (clN bz) * 1 ≤ 536870912; omega) (Nat.le_of_ble_eq_true rfl) (by show 0 + 129 + 129 + 64 * (clN bz) ≤ 4354; omega) dX0_init_49 (fun q5 cA6 H hK hP hD hS => ?_)
  have hK : va_K D vwCl [(cA2, .int), (cA4, .byte), (cA6, .byte)] s := hK
  have hP : va_P D vwCl [(a0, .inr (1, [.int (nI (clN bz)), .null, .ref q1, .ref q3, .int (nI 0)])), (q1, .inl (cA2, 129, .inl (aI (fun _ => 0)))), (q3, .inl (cA4, 129, .inl (aB (fun _ => 0)))), (q5, .inl (cA6, 64 * (clN bz), .inl (aB (fun _ => 0))))] H := hP
  have hD : va_D A [(a0, .inr (1, [.int (nI (clN bz)), .null, .ref q1, .ref q3, .int (nI 0)])), (q1, .inl (cA2, 129, .inl (aI (fun _ => 0)))), (q3, .inl (cA4, 129, .inl (aB (fun _ => 0)))), (q5, .inl (cA6, 64 * (clN bz), .inl (aB (fun _ => 0))))] := hD
  refine va_putF (D := D) (ci := 1) (v := .ref q5) (ty := .array .byte) (C := RX0) (T := TX0) (N := 5) hx hb hts hinX0 tyX0 tyX0_ok nmX0 hown hK hP hD hS 0 rfl rfl 1 (by decide) (hts (.fieldLink RX0 35 "PuzzleBook$Store" "bytes" "[B") (by decide +kernel)) (fun _ h9 => h9) rfl hin rfl (by decide +kernel) rfl rfl (Nat.le_of_ble_eq_true rfl) dX0_init_51 (fun H locs hP hD hS => ?_)
  have hP : va_P D vwCl [(a0, .inr (1, [.int (nI (clN bz)), .ref q5, .ref q1, .ref q3, .int (nI 0)])), (q1, .inl (cA2, 129, .inl (aI (fun _ => 0)))), (q3, .inl (cA4, 129, .inl (aB (fun _ => 0)))), (q5, .inl (cA6, 64 * (clN bz), .inl (aB (fun _ => 0))))] H := hP
  have hD : va_D A [(a0, .inr (1, [.int (nI (clN bz)), .ref q5, .ref q1, .ref q3, .int (nI 0)])), (q1, .inl (cA2, 129, .inl (aI (fun _ => 0)))), (q3, .inl (cA4, 129, .inl (aB (fun _ => 0)))), (q5, .inl (cA6, 64 * (clN bz), .inl (aB (fun _ => 0))))] := hD
  obtain rfl : cA4 = cA6 := ty_eqB hK 1 2 rfl rfl
  have hP9 := hP.sub (ws' := sW a0 q5 q1 q3 cA4 cA2 (clN bz) L0) [0, 3, 1, 2] rfl
  have hD9 := hD.sub (ws' := sW a0 q5 q1 q3 cA4 cA2 (clN bz) L0) [0, 3, 1, 2] (by decide) rfl
  have hK9 := hK.sub (tys' := ty2 cA4 cA2) [1, 0] rfl
  refine W.widen (k := 3) (n := 4354) (by decide) (by omega) ?_
  exact W.vret hx hb hr (fun t ht hW => ⟨⟨(q5, q1, q3, cA4, cA2), rfl, trivial, by rw [ht]; exact hP9, va_K.moved hW.alike hK9, hD9⟩, hS.F ht⟩) hS.2.2 dX0_init_54 hlocks
