/-! 05: PuzzleBook$Store, its leaves (laid by wip/whole/gen/gen_store.py) -/
theorem nI_xor (x y : Nat) : nI x ^^^ nI y = nI (x ^^^ y) := by
  apply Int32.toBitVec_inj.mp
  show BitVec.ofNat 32 x ^^^ BitVec.ofNat 32 y = BitVec.ofNat 32 (x ^^^ y)
  rw [BitVec.ofNat_xor]
theorem alt_b (x y : Nat) : (bb x ^^^ nI y).toInt8.toInt32 = bb (x ^^^ y) := by
  unfold bb
  rw [← nI_xor, Int32.toInt8_xor, Int32.toInt8_xor]
  simp
/-- a byte xored by a mask -/
def wX (L : Lg) (pl mk : Nat) : Lg := (va_up L.1 pl (L.1 pl ^^^ mk), L.2.1, L.2.2.1, L.2.2.2)
theorem nI_max {a b : Nat} (ha : a < 2 ^ 31) (hb : b < 2 ^ 31) : (if nI a < nI b then nI b else nI a) = nI (max a b) := by
  by_cases h : a < b
  · rw [if_pos ((nI_ltI ha hb).mpr h), Nat.max_eq_right (by omega)]
  · rw [if_neg (fun q => h ((nI_ltI ha hb).mp q)), Nat.max_eq_left (by omega)]
theorem nI_min {a b : Nat} (ha : a < 2 ^ 31) (hb : b < 2 ^ 31) : (if nI b < nI a then nI b else nI a) = nI (min a b) := by
  by_cases h : b < a
  · rw [if_pos ((nI_ltI hb ha).mpr h), Nat.min_eq_right (by omega)]
  · rw [if_neg (fun q => h ((nI_ltI hb ha).mp q)), Nat.min_eq_left (by omega)]
/-- 1 where it holds, 0 where it doesn't -/
noncomputable def b01 (P : Prop) : Nat := @ite Nat P (Classical.propDecidable P) 1 0
theorem b01_t {P : Prop} (h : P) : b01 P = 1 := if_pos h
theorem b01_f {P : Prop} (h : ¬ P) : b01 P = 0 := if_neg h
/-- the bytes when j of the writes from kp on are undone, the first first -/
def unA (L : Lg) (kp : Nat) : Nat → Nat → Nat
  | 0 => L.1
  | j + 1 => va_up (unA L kp j) (L.2.1 (kp + j)) (L.2.2.1 (kp + j))
def wU (L : Lg) (kp : Nat) : Lg := (unA L kp (L.2.2.2 - kp), L.2.1, L.2.2.1, 0)
set_option maxRecDepth 100000 in
set_option maxHeartbeats 4000000 in
/-- blockCount() -/
theorem c_X0_blockCount (l : Launch) (D : va_G) (a0 a1 a2 a3 : Nat) (cB cI : ClassId) (n : Nat) (L : Lg)   : Met l yX0_blockCount wsX0_blockCount ({ frames := 0, cells := 0, slots := 0, locals := 0 }) (rP [.ref a0] D (sW a0 a1 a2 a3 cB cI n L) (ty2 cB cI)) (vp_Si (fun r => r = nI n)) 0 0 (fun _ => False) := by
  refine met_r (by decide) rfl (Nat.le_of_ble_eq_true rfl) ?_
  intro p e s m below meth c hx hb hml hr hlocks hown hts hP hK ls hl
  have hown : s.vm.findClass RX0 = some m.cls := hown
  have hinX0 : ∀ w ∈ u_ws RX0 TX0 5, w ∈ wsX0_blockCount := by decide +kernel
  have hl : lv_has ls 1 [(0, .ref a0)] := hl
  refine lv_aload_n hx hb dX0_blockCount_0 rfl (lv_at hl 0 rfl) ?_
  refine va_get (D := D) (ci := 1) (v := .int (nI n)) (C := RX0) (T := TX0) (N := 5) hx hb hts hinX0 hown hK hP 0 rfl rfl 0 (by decide) (hts (.fieldLink RX0 32 "PuzzleBook$Store" "blocks" "I") (by decide +kernel)) (fun _ h9 => h9) rfl dX0_blockCount_1 ?_
  exact rt_i hx hb hr hlocks dX0_blockCount_4 rfl
set_option maxRecDepth 100000 in
set_option maxHeartbeats 4000000 in
/-- writtenBytes() -/
theorem c_X0_writtenBytes (l : Launch) (D : va_G) (a0 a1 a2 a3 : Nat) (cB cI : ClassId) (n : Nat) (L : Lg)   : Met l yX0_writtenBytes wsX0_writtenBytes ({ frames := 0, cells := 0, slots := 0, locals := 0 }) (rP [.ref a0] D (sW a0 a1 a2 a3 cB cI n L) (ty2 cB cI)) (vp_Si (fun r => r = nI L.2.2.2)) 0 0 (fun _ => False) := by
  refine met_r (by decide) rfl (Nat.le_of_ble_eq_true rfl) ?_
  intro p e s m below meth c hx hb hml hr hlocks hown hts hP hK ls hl
  have hown : s.vm.findClass RX0 = some m.cls := hown
  have hinX0 : ∀ w ∈ u_ws RX0 TX0 5, w ∈ wsX0_writtenBytes := by decide +kernel
  have hl : lv_has ls 1 [(0, .ref a0)] := hl
  refine lv_aload_n hx hb dX0_writtenBytes_0 rfl (lv_at hl 0 rfl) ?_
  refine va_get (D := D) (ci := 1) (v := .int (nI L.2.2.2)) (C := RX0) (T := TX0) (N := 5) hx hb hts hinX0 hown hK hP 0 rfl rfl 4 (by decide) (hts (.fieldLink RX0 19 "PuzzleBook$Store" "changed" "I") (by decide +kernel)) (fun _ h9 => h9) rfl dX0_writtenBytes_1 ?_
  exact rt_i hx hb hr hlocks dX0_writtenBytes_4 rfl
set_option maxRecDepth 100000 in
set_option maxHeartbeats 4000000 in
/-- has(block, i) -/
theorem c_X0_has (l : Launch) (D : va_G) (a0 a1 a2 a3 : Nat) (cB cI : ClassId) (n : Nat) (L : Lg) (bv iv : Int32) (bz iz : Int) (hn : n ≤ 64) (h1 : bv.toInt = bz) (h2 : iv.toInt = iz) : Met l yX0_has wsX0_has ({ frames := 0, cells := 0, slots := 0, locals := 0 }) (rP [.ref a0, .int bv, .int iv] D (sW a0 a1 a2 a3 cB cI n L) (ty2 cB cI)) (vp_Si (fun r => r = nI (b01 (0 ≤ bz ∧ bz < (n : Int) ∧ 0 ≤ iz ∧ iz < 64)))) 0 0 (fun _ => False) := by
  refine met_r (by decide) rfl (Nat.le_of_ble_eq_true rfl) ?_
  intro p e s m below meth c hx hb hml hr hlocks hown hts hP hK ls hl
  have hown : s.vm.findClass RX0 = some m.cls := hown
  have hinX0 : ∀ w ∈ u_ws RX0 TX0 5, w ∈ wsX0_has := by decide +kernel
  have hl : lv_has ls 3 [(0, .ref a0), (1, .int bv), (2, .int iv)] := hl
  refine lv_iload_n hx hb dX0_has_0 rfl (lv_at hl 1 rfl) ?_
  refine j0_lt (tgt := 26) hx hb h1 dX0_has_1 (by decide) (fun c1 => ?_) (fun c1 => ?_)
  · skip
    refine lv_iconst (v := nI 0) hx hb dX0_has_26 (by decide +kernel) ?_
    exact rt_z hx hb hr hlocks dX0_has_27 (by decide +kernel) (by rw [b01_f (by omega)])
  · skip
    refine lv_iload_n hx hb dX0_has_4 rfl (lv_at hl 1 rfl) ?_
    refine lv_aload_n hx hb dX0_has_5 rfl (lv_at hl 0 rfl) ?_
    refine va_get (D := D) (ci := 1) (v := .int (nI n)) (C := RX0) (T := TX0) (N := 5) hx hb hts hinX0 hown hK hP 0 rfl rfl 0 (by decide) (hts (.fieldLink RX0 32 "PuzzleBook$Store" "blocks" "I") (by decide +kernel)) (fun _ h9 => h9) rfl dX0_has_6 ?_
    refine jb_ge (tgt := 26) hx hb h1 (nI_toInt (n := n) (by omega)) dX0_has_9 (by decide) (fun c2 => ?_) (fun c2 => ?_)
    · skip
      refine lv_iconst (v := nI 0) hx hb dX0_has_26 (by decide +kernel) ?_
      exact rt_z hx hb hr hlocks dX0_has_27 (by decide +kernel) (by rw [b01_f (by omega)])
    · skip
      refine lv_iload_n hx hb dX0_has_12 rfl (lv_at hl 2 rfl) ?_
      refine j0_lt (tgt := 26) hx hb h2 dX0_has_13 (by decide) (fun c3 => ?_) (fun c3 => ?_)
      · skip
        refine lv_iconst (v := nI 0) hx hb dX0_has_26 (by decide +kernel) ?_
        exact rt_z hx hb hr hlocks dX0_has_27 (by decide +kernel) (by rw [b01_f (by omega)])
      · skip
        refine lv_iload_n hx hb dX0_has_16 rfl (lv_at hl 2 rfl) ?_
        refine lv_bipush (v := nI 64) hx hb dX0_has_17 (by decide +kernel) ?_
        refine jb_ge (tgt := 26) hx hb h2 (nI_toInt (n := 64) (by decide)) dX0_has_19 (by decide) (fun c4 => ?_) (fun c4 => ?_)
        · skip
          refine lv_iconst (v := nI 0) hx hb dX0_has_26 (by decide +kernel) ?_
          exact rt_z hx hb hr hlocks dX0_has_27 (by decide +kernel) (by rw [b01_f (by omega)])
        · skip
          refine lv_iconst (v := nI 1) hx hb dX0_has_22 (by decide +kernel) ?_
          refine lv_goto (tgt := 27) hx hb dX0_has_23 (by decide) ?_
          exact rt_z hx hb hr hlocks dX0_has_27 (by decide +kernel) (by rw [b01_t (by omega)])
set_option maxRecDepth 100000 in
set_option maxHeartbeats 4000000 in
/-- read(block, i), of a byte that is there -/
theorem c_X0_read (l : Launch) (D : va_G) (a0 a1 a2 a3 : Nat) (cB cI : ClassId) (n : Nat) (L : Lg) (bk i : Nat) (hn : n ≤ 64) (hg : ∀ j, L.1 j < 256) (h1 : bk < n) (h2 : i < 64) : Met l yX0_read wsX0_read ({ frames := 1, cells := 0, slots := 0, locals := 22 }) (rP [.ref a0, .int (nI bk), .int (nI i)] D (sW a0 a1 a2 a3 cB cI n L) (ty2 cB cI)) (vp_Si (fun r => r = nI (L.1 (64 * bk + i)))) 0 0 (fun _ => False) := by
  refine met_r (by decide) rfl (Nat.le_of_ble_eq_true rfl) ?_
  intro p e s m below meth c hx hb hml hr hlocks hown hts hP hK ls hl
  have hown : s.vm.findClass RX0 = some m.cls := hown
  have hinX0 : ∀ w ∈ u_ws RX0 TX0 5, w ∈ wsX0_read := by decide +kernel
  have hl : lv_has ls 3 [(0, .ref a0), (1, .int (nI bk)), (2, .int (nI i))] := hl
  refine lv_aload_n hx hb dX0_read_0 rfl (lv_at hl 0 rfl) ?_
  refine lv_iload_n hx hb dX0_read_1 rfl (lv_at hl 1 rfl) ?_
  refine lv_iload_n hx hb dX0_read_2 rfl (lv_at hl 2 rfl) ?_
  refine rd_V (As := [.int (nI bk), .int (nI i)]) (rest := []) ⟨hx, hb, hml, hown, hts⟩ (c_X0_has l D a0 a1 a2 a3 cB cI n L (nI bk) (nI i) ((bk : Nat) : Int) ((i : Nat) : Int) hn (nI_toInt (by omega)) (nI_toInt (by omega))) (cwV 2 hts gX0_read_X0_has rfl rfl rfl (by decide +kernel) ⟨Nat.le_of_ble_eq_true rfl, Nat.le_of_ble_eq_true rfl⟩) hK hP [0, 1, 2, 3] rfl (ci := 1) rfl rfl (q0 := 0) rfl rfl hl.1 rfl (Nat.le_of_ble_eq_true rfl) dX0_read_3 ⟨Nat.zero_le _, Nat.zero_le _⟩ (fun r1 hr1 => ?_)
  subst hr1
  refine lv_as (y := nI 1) (congrArg nI (b01_t (by omega))) ?_
  refine j0_eq (tgt := 27) hx hb (nI_toInt (n := 1) (by decide)) dX0_read_6 (by decide) (fun c2 => absurd c2 (by omega)) (fun c2 => ?_)
  refine lv_aload_n hx hb dX0_read_9 rfl (lv_at hl 0 rfl) ?_
  refine va_get (D := D) (ci := 1) (v := .ref a1) (C := RX0) (T := TX0) (N := 5) hx hb hts hinX0 hown hK hP 0 rfl rfl 1 (by decide) (hts (.fieldLink RX0 35 "PuzzleBook$Store" "bytes" "[B") (by decide +kernel)) (fun _ h9 => h9) rfl dX0_read_10 ?_
  refine lv_iload_n hx hb dX0_read_13 rfl (lv_at hl 1 rfl) ?_
  refine lv_bipush (v := nI 64) hx hb dX0_read_14 (by decide +kernel) ?_
  refine lv_imul hx hb dX0_read_16 ?_
  refine lv_as (y := nI (64 * bk)) ((pk_mul _ _).trans (congrArg nI (Nat.mul_comm _ _))) ?_
  refine lv_iload_n hx hb dX0_read_17 rfl (lv_at hl 2 rfl) ?_
  refine lv_iadd hx hb dX0_read_18 ?_
  refine lv_as (y := nI ((64 * bk) + i)) (nI_add _ _) ?_
  refine ld_b (f := L.1) (k := (64 * bk) + i) hx hb hK hP 1 0 rfl rfl (by omega) (by omega) dX0_read_19 ?_
  refine lv_sipush (v := nI 255) hx hb dX0_read_20 (by decide +kernel) ?_
  refine lv_iand hx hb dX0_read_23 ?_
  refine lv_as (y := nI (L.1 (64 * bk + i))) (bb_and (hg _)) ?_
  refine lv_goto (tgt := 28) hx hb dX0_read_24 (by decide) ?_
  exact rt_i hx hb hr hlocks dX0_read_28 rfl
set_option maxRecDepth 100000 in
set_option maxHeartbeats 4000000 in
/-- alter(block, i, mask), of a byte that is there -/
theorem c_X0_alter (l : Launch) (D : va_G) (a0 a1 a2 a3 : Nat) (cB cI : ClassId) (n : Nat) (L : Lg) (bk i mk : Nat) (sz : Nat) (hn : n ≤ 64) (h1 : bk < n) (h2 : i < 64) : Met l yX0_alter wsX0_alter ({ frames := 1, cells := 0, slots := 0, locals := 22 }) (wP [.ref a0, .int (nI bk), .int (nI i), .int (nI mk)] D (sW a0 a1 a2 a3 cB cI n L) (ty2 cB cI) sz) (wQv D (sW a0 a1 a2 a3 cB cI n (wX L (64 * bk + i) mk)) (va_A (sW a0 a1 a2 a3 cB cI n L) sz)) 0 0 (va_A (sW a0 a1 a2 a3 cB cI n L) sz) := by
  refine met_w (by decide) rfl (Nat.le_of_ble_eq_true rfl) ?_
  intro p e s m below meth c hx hb hml hr hlocks hown hts hP hK A hD hA hS ls hl
  have hown : s.vm.findClass RX0 = some m.cls := hown
  have hinX0 : ∀ w ∈ u_ws RX0 TX0 5, w ∈ wsX0_alter := by decide +kernel
  have hl : lv_has ls 5 [(0, .ref a0), (1, .int (nI bk)), (2, .int (nI i)), (3, .int (nI mk))] := hl
  refine lv_aload_n hx hb dX0_alter_0 rfl (lv_at hl 0 rfl) ?_
  refine lv_iload_n hx hb dX0_alter_1 rfl (lv_at hl 1 rfl) ?_
  refine lv_iload_n hx hb dX0_alter_2 rfl (lv_at hl 2 rfl) ?_
  refine rd_V (As := [.int (nI bk), .int (nI i)]) (rest := []) ⟨hx, hb, hml, hown, hts⟩ (c_X0_has l D a0 a1 a2 a3 cB cI n L (nI bk) (nI i) ((bk : Nat) : Int) ((i : Nat) : Int) hn (nI_toInt (by omega)) (nI_toInt (by omega))) (cwV 2 hts gX0_alter_X0_has rfl rfl rfl (by decide +kernel) ⟨Nat.le_of_ble_eq_true rfl, Nat.le_of_ble_eq_true rfl⟩) hK hP [0, 1, 2, 3] rfl (ci := 1) rfl rfl (q0 := 0) rfl rfl hl.1 rfl (Nat.le_of_ble_eq_true rfl) dX0_alter_3 ⟨Nat.zero_le _, Nat.zero_le _⟩ (fun r1 hr1 => ?_)
  subst hr1
  refine lv_as (y := nI 1) (congrArg nI (b01_t (by omega))) ?_
  refine j0_eq (tgt := 34) hx hb (nI_toInt (n := 1) (by decide)) dX0_alter_6 (by decide) (fun c2 => absurd c2 (by omega)) (fun c2 => ?_)
  refine lv_iload_n hx hb dX0_alter_9 rfl (lv_at hl 1 rfl) ?_
  refine lv_bipush (v := nI 64) hx hb dX0_alter_10 (by decide +kernel) ?_
  refine lv_imul hx hb dX0_alter_12 ?_
  refine lv_as (y := nI (64 * bk)) ((pk_mul _ _).trans (congrArg nI (Nat.mul_comm _ _))) ?_
  refine lv_iload_n hx hb dX0_alter_13 rfl (lv_at hl 2 rfl) ?_
  refine lv_iadd hx hb dX0_alter_14 ?_
  refine lv_as (y := nI ((64 * bk) + i)) (nI_add _ _) ?_
  refine lv_istore (lv' := [(4, .int (nI ((64 * bk) + i))), (0, .ref a0), (1, .int (nI bk)), (2, .int (nI i)), (3, .int (nI mk))]) hx hb dX0_alter_15 hl (by decide) rfl (fun ls hl => ?_)
  refine lv_aload_n hx hb dX0_alter_17 rfl (lv_at hl 1 rfl) ?_
  refine va_get (D := D) (ci := 1) (v := .ref a1) (C := RX0) (T := TX0) (N := 5) hx hb hts hinX0 hown hK hP 0 rfl rfl 1 (by decide) (hts (.fieldLink RX0 35 "PuzzleBook$Store" "bytes" "[B") (by decide +kernel)) (fun _ h9 => h9) rfl dX0_alter_18 ?_
  refine lv_iload hx hb dX0_alter_21 (lv_at hl 0 rfl) ?_
  refine lv_aload_n hx hb dX0_alter_23 rfl (lv_at hl 1 rfl) ?_
  refine va_get (D := D) (ci := 1) (v := .ref a1) (C := RX0) (T := TX0) (N := 5) hx hb hts hinX0 hown hK hP 0 rfl rfl 1 (by decide) (hts (.fieldLink RX0 35 "PuzzleBook$Store" "bytes" "[B") (by decide +kernel)) (fun _ h9 => h9) rfl dX0_alter_24 ?_
  refine lv_iload hx hb dX0_alter_27 (lv_at hl 0 rfl) ?_
  refine ld_b (f := L.1) (k := (64 * bk) + i) hx hb hK hP 1 0 rfl rfl (by omega) (by omega) dX0_alter_29 ?_
  refine lv_iload_n hx hb dX0_alter_30 rfl (lv_at hl 4 rfl) ?_
  refine lv_ixor hx hb dX0_alter_31 ?_
  refine lv_i2b (v := ((bb (L.1 ((64 * bk) + i))) ^^^ nI mk).toInt8.toInt32) hx hb dX0_alter_32 rfl ?_
  refine st_b (f := L.1) (k := (64 * bk) + i) (x := L.1 (64 * bk + i) ^^^ mk) hx hb hK hP hD hS 1 0 rfl rfl (by omega) (by omega) (by rw [pk_vb]; exact alt_b _ _) dX0_alter_33 (fun H locs hP hD hS => ?_)
  have hP : va_P D vwCl (sW a0 a1 a2 a3 cB cI n (va_up L.1 ((64 * bk) + i) (L.1 (64 * bk + i) ^^^ mk), L.2.1, L.2.2.1, L.2.2.2)) H := hP
  have hD : va_D A (sW a0 a1 a2 a3 cB cI n (va_up L.1 ((64 * bk) + i) (L.1 (64 * bk + i) ^^^ mk), L.2.1, L.2.2.1, L.2.2.2)) := hD
  exact rt_v hx hb hr hlocks hP hD hS dX0_alter_34
set_option maxRecDepth 100000 in
set_option maxHeartbeats 4000000 in
/-- beginChange() -/
theorem c_X0_beginChange (l : Launch) (D : va_G) (a0 a1 a2 a3 : Nat) (cB cI : ClassId) (n : Nat) (L : Lg)  (sz : Nat)  : Met l yX0_beginChange wsX0_beginChange ({ frames := 0, cells := 0, slots := 0, locals := 0 }) (wP [.ref a0] D (sW a0 a1 a2 a3 cB cI n L) (ty2 cB cI) sz) (wQv D (sW a0 a1 a2 a3 cB cI n (w0 L)) (va_A (sW a0 a1 a2 a3 cB cI n L) sz)) 0 0 (va_A (sW a0 a1 a2 a3 cB cI n L) sz) := by
  refine met_w (by decide) rfl (Nat.le_of_ble_eq_true rfl) ?_
  intro p e s m below meth c hx hb hml hr hlocks hown hts hP hK A hD hA hS ls hl
  have hown : s.vm.findClass RX0 = some m.cls := hown
  have hinX0 : ∀ w ∈ u_ws RX0 TX0 5, w ∈ wsX0_beginChange := by decide +kernel
  have hl : lv_has ls 1 [(0, .ref a0)] := hl
  refine lv_aload_n hx hb dX0_beginChange_0 rfl (lv_at hl 0 rfl) ?_
  refine lv_iconst (v := nI 0) hx hb dX0_beginChange_1 (by decide +kernel) ?_
  refine va_put (D := D) (ci := 1) (v := .int (nI 0)) (ty := .int) (C := RX0) (T := TX0) (N := 5) hx hb hts hinX0 tyX0 tyX0_ok nmX0 hown hK hP hD hS 0 rfl rfl 4 (by decide) (hts (.fieldLink RX0 19 "PuzzleBook$Store" "changed" "I") (by decide +kernel)) (fun _ h9 => h9) rfl (by decide +kernel) rfl rfl (Nat.le_of_ble_eq_true rfl) dX0_beginChange_2 (fun H locs hP hD hS => ?_)
  have hP : va_P D vwCl (sW a0 a1 a2 a3 cB cI n (L.1, L.2.1, L.2.2.1, 0)) H := hP
  have hD : va_D A (sW a0 a1 a2 a3 cB cI n (L.1, L.2.1, L.2.2.1, 0)) := hD
  exact rt_v hx hb hr hlocks hP hD hS dX0_beginChange_5
set_option maxRecDepth 100000 in
set_option maxHeartbeats 4000000 in
/-- write(block, i, value): x is the byte of the value -/
theorem c_X0_write (l : Launch) (D : va_G) (a0 a1 a2 a3 : Nat) (cB cI : ClassId) (n : Nat) (L : Lg) (bk i : Nat) (v : Int32) (x : Nat) (sz : Nat) (hn : n ≤ 64) (h1 : bk < n) (h2 : i < 64) (hw : L.2.2.2 < 129) (hv : v.toInt8.toInt32 = bb x) : Met l yX0_write wsX0_write ({ frames := 1, cells := 0, slots := 0, locals := 22 }) (wP [.ref a0, .int (nI bk), .int (nI i), .int v] D (sW a0 a1 a2 a3 cB cI n L) (ty2 cB cI) sz) (wQv D (sW a0 a1 a2 a3 cB cI n (w1 L (64 * bk + i) x)) (va_A (sW a0 a1 a2 a3 cB cI n L) sz)) 0 0 (va_A (sW a0 a1 a2 a3 cB cI n L) sz) := by
  refine met_w (by decide) rfl (Nat.le_of_ble_eq_true rfl) ?_
  intro p e s m below meth c hx hb hml hr hlocks hown hts hP hK A hD hA hS ls hl
  have hown : s.vm.findClass RX0 = some m.cls := hown
  have hinX0 : ∀ w ∈ u_ws RX0 TX0 5, w ∈ wsX0_write := by decide +kernel
  have hl : lv_has ls 5 [(0, .ref a0), (1, .int (nI bk)), (2, .int (nI i)), (3, .int v)] := hl
  refine lv_aload_n hx hb dX0_write_0 rfl (lv_at hl 0 rfl) ?_
  refine lv_iload_n hx hb dX0_write_1 rfl (lv_at hl 1 rfl) ?_
  refine lv_iload_n hx hb dX0_write_2 rfl (lv_at hl 2 rfl) ?_
  refine rd_V (As := [.int (nI bk), .int (nI i)]) (rest := []) ⟨hx, hb, hml, hown, hts⟩ (c_X0_has l D a0 a1 a2 a3 cB cI n L (nI bk) (nI i) ((bk : Nat) : Int) ((i : Nat) : Int) hn (nI_toInt (by omega)) (nI_toInt (by omega))) (cwV 2 hts gX0_write_X0_has rfl rfl rfl (by decide +kernel) ⟨Nat.le_of_ble_eq_true rfl, Nat.le_of_ble_eq_true rfl⟩) hK hP [0, 1, 2, 3] rfl (ci := 1) rfl rfl (q0 := 0) rfl rfl hl.1 rfl (Nat.le_of_ble_eq_true rfl) dX0_write_3 ⟨Nat.zero_le _, Nat.zero_le _⟩ (fun r1 hr1 => ?_)
  subst hr1
  refine lv_as (y := nI 1) (congrArg nI (b01_t (by omega))) ?_
  refine j0_eq (tgt := 26) hx hb (nI_toInt (n := 1) (by decide)) dX0_write_6 (by decide) (fun c2 => absurd c2 (by omega)) (fun c2 => ?_)
  refine lv_aload_n hx hb dX0_write_9 rfl (lv_at hl 0 rfl) ?_
  refine va_get (D := D) (ci := 1) (v := .int (nI L.2.2.2)) (C := RX0) (T := TX0) (N := 5) hx hb hts hinX0 hown hK hP 0 rfl rfl 4 (by decide) (hts (.fieldLink RX0 19 "PuzzleBook$Store" "changed" "I") (by decide +kernel)) (fun _ h9 => h9) rfl dX0_write_10 ?_
  refine j0_lt (tgt := 26) hx hb (nI_toInt (n := L.2.2.2) (by omega)) dX0_write_13 (by decide) (fun c3 => absurd c3 (by omega)) (fun c3 => ?_)
  refine lv_aload_n hx hb dX0_write_16 rfl (lv_at hl 0 rfl) ?_
  refine va_get (D := D) (ci := 1) (v := .int (nI L.2.2.2)) (C := RX0) (T := TX0) (N := 5) hx hb hts hinX0 hown hK hP 0 rfl rfl 4 (by decide) (hts (.fieldLink RX0 19 "PuzzleBook$Store" "changed" "I") (by decide +kernel)) (fun _ h9 => h9) rfl dX0_write_17 ?_
  refine lv_sipush (v := nI 129) hx hb dX0_write_20 (by decide +kernel) ?_
  refine jb_lt (tgt := 27) hx hb (nI_toInt (n := L.2.2.2) (by omega)) (nI_toInt (n := 129) (by decide)) dX0_write_23 (by decide) (fun c4 => ?_) (fun c4 => absurd c4 (by omega))
  refine lv_iload_n hx hb dX0_write_27 rfl (lv_at hl 1 rfl) ?_
  refine lv_bipush (v := nI 64) hx hb dX0_write_28 (by decide +kernel) ?_
  refine lv_imul hx hb dX0_write_30 ?_
  refine lv_as (y := nI (64 * bk)) ((pk_mul _ _).trans (congrArg nI (Nat.mul_comm _ _))) ?_
  refine lv_iload_n hx hb dX0_write_31 rfl (lv_at hl 2 rfl) ?_
  refine lv_iadd hx hb dX0_write_32 ?_
  refine lv_as (y := nI ((64 * bk) + i)) (nI_add _ _) ?_
  refine lv_istore (lv' := [(4, .int (nI ((64 * bk) + i))), (0, .ref a0), (1, .int (nI bk)), (2, .int (nI i)), (3, .int v)]) hx hb dX0_write_33 hl (by decide) rfl (fun ls hl => ?_)
  refine lv_aload_n hx hb dX0_write_35 rfl (lv_at hl 1 rfl) ?_
  refine va_get (D := D) (ci := 1) (v := .ref a2) (C := RX0) (T := TX0) (N := 5) hx hb hts hinX0 hown hK hP 0 rfl rfl 2 (by decide) (hts (.fieldLink RX0 9 "PuzzleBook$Store" "changedPlaces" "[I") (by decide +kernel)) (fun _ h9 => h9) rfl dX0_write_36 ?_
  refine lv_aload_n hx hb dX0_write_39 rfl (lv_at hl 1 rfl) ?_
  refine va_get (D := D) (ci := 1) (v := .int (nI L.2.2.2)) (C := RX0) (T := TX0) (N := 5) hx hb hts hinX0 hown hK hP 0 rfl rfl 4 (by decide) (hts (.fieldLink RX0 19 "PuzzleBook$Store" "changed" "I") (by decide +kernel)) (fun _ h9 => h9) rfl dX0_write_40 ?_
  refine lv_iload hx hb dX0_write_43 (lv_at hl 0 rfl) ?_
  refine st_i (f := L.2.1) (k := L.2.2.2) (x := (64 * bk) + i) hx hb hK hP hD hS 2 1 rfl rfl (by omega) (by decide) dX0_write_45 (fun H locs hP hD hS => ?_)
  have hP : va_P D vwCl (sW a0 a1 a2 a3 cB cI n (L.1, va_up L.2.1 L.2.2.2 ((64 * bk) + i), L.2.2.1, L.2.2.2)) H := hP
  have hD : va_D A (sW a0 a1 a2 a3 cB cI n (L.1, va_up L.2.1 L.2.2.2 ((64 * bk) + i), L.2.2.1, L.2.2.2)) := hD
  refine lv_aload_n hx hb dX0_write_46 rfl (lv_at hl 1 rfl) ?_
  refine va_get (D := D) (ci := 1) (v := .ref a3) (C := RX0) (T := TX0) (N := 5) hx hb hts hinX0 hown hK hP 0 rfl rfl 3 (by decide) (hts (.fieldLink RX0 15 "PuzzleBook$Store" "formerBytes" "[B") (by decide +kernel)) (fun _ h9 => h9) rfl dX0_write_47 ?_
  refine lv_aload_n hx hb dX0_write_50 rfl (lv_at hl 1 rfl) ?_
  refine va_get (D := D) (ci := 1) (v := .int (nI L.2.2.2)) (C := RX0) (T := TX0) (N := 5) hx hb hts hinX0 hown hK hP 0 rfl rfl 4 (by decide) (hts (.fieldLink RX0 19 "PuzzleBook$Store" "changed" "I") (by decide +kernel)) (fun _ h9 => h9) rfl dX0_write_51 ?_
  refine lv_aload_n hx hb dX0_write_54 rfl (lv_at hl 1 rfl) ?_
  refine va_get (D := D) (ci := 1) (v := .ref a1) (C := RX0) (T := TX0) (N := 5) hx hb hts hinX0 hown hK hP 0 rfl rfl 1 (by decide) (hts (.fieldLink RX0 35 "PuzzleBook$Store" "bytes" "[B") (by decide +kernel)) (fun _ h9 => h9) rfl dX0_write_55 ?_
  refine lv_iload hx hb dX0_write_58 (lv_at hl 0 rfl) ?_
  refine ld_b (f := L.1) (k := (64 * bk) + i) hx hb hK hP 1 0 rfl rfl (by omega) (by omega) dX0_write_60 ?_
  refine st_b (f := L.2.2.1) (k := L.2.2.2) (x := (L.1 ((64 * bk) + i))) hx hb hK hP hD hS 3 0 rfl rfl (by omega) (by decide) (bb_n _) dX0_write_61 (fun H locs hP hD hS => ?_)
  have hP : va_P D vwCl (sW a0 a1 a2 a3 cB cI n (L.1, va_up L.2.1 L.2.2.2 ((64 * bk) + i), va_up L.2.2.1 L.2.2.2 (L.1 ((64 * bk) + i)), L.2.2.2)) H := hP
  have hD : va_D A (sW a0 a1 a2 a3 cB cI n (L.1, va_up L.2.1 L.2.2.2 ((64 * bk) + i), va_up L.2.2.1 L.2.2.2 (L.1 ((64 * bk) + i)), L.2.2.2)) := hD
  refine lv_aload_n hx hb dX0_write_62 rfl (lv_at hl 1 rfl) ?_
  refine lv_dup hx hb dX0_write_63 rfl ?_
  refine va_get (D := D) (ci := 1) (v := .int (nI L.2.2.2)) (C := RX0) (T := TX0) (N := 5) hx hb hts hinX0 hown hK hP 0 rfl rfl 4 (by decide) (hts (.fieldLink RX0 19 "PuzzleBook$Store" "changed" "I") (by decide +kernel)) (fun _ h9 => h9) rfl dX0_write_64 ?_
  refine lv_iconst (v := nI 1) hx hb dX0_write_67 (by decide +kernel) ?_
  refine lv_iadd hx hb dX0_write_68 ?_
  refine lv_as (y := nI (L.2.2.2 + 1)) (nI_add _ _) ?_
  refine va_put (D := D) (ci := 1) (v := .int (nI (L.2.2.2 + 1))) (ty := .int) (C := RX0) (T := TX0) (N := 5) hx hb hts hinX0 tyX0 tyX0_ok nmX0 hown hK hP hD hS 0 rfl rfl 4 (by decide) (hts (.fieldLink RX0 19 "PuzzleBook$Store" "changed" "I") (by decide +kernel)) (fun _ h9 => h9) rfl (by decide +kernel) rfl rfl (Nat.le_of_ble_eq_true rfl) dX0_write_69 (fun H locs hP hD hS => ?_)
  have hP : va_P D vwCl (sW a0 a1 a2 a3 cB cI n (L.1, va_up L.2.1 L.2.2.2 ((64 * bk) + i), va_up L.2.2.1 L.2.2.2 (L.1 ((64 * bk) + i)), L.2.2.2 + 1)) H := hP
  have hD : va_D A (sW a0 a1 a2 a3 cB cI n (L.1, va_up L.2.1 L.2.2.2 ((64 * bk) + i), va_up L.2.2.1 L.2.2.2 (L.1 ((64 * bk) + i)), L.2.2.2 + 1)) := hD
  refine lv_aload_n hx hb dX0_write_72 rfl (lv_at hl 1 rfl) ?_
  refine va_get (D := D) (ci := 1) (v := .ref a1) (C := RX0) (T := TX0) (N := 5) hx hb hts hinX0 hown hK hP 0 rfl rfl 1 (by decide) (hts (.fieldLink RX0 35 "PuzzleBook$Store" "bytes" "[B") (by decide +kernel)) (fun _ h9 => h9) rfl dX0_write_73 ?_
  refine lv_iload hx hb dX0_write_76 (lv_at hl 0 rfl) ?_
  refine lv_iload_n hx hb dX0_write_78 rfl (lv_at hl 4 rfl) ?_
  refine lv_i2b (v := v.toInt8.toInt32) hx hb dX0_write_79 rfl ?_
  refine st_b (f := L.1) (k := (64 * bk) + i) (x := x) hx hb hK hP hD hS 1 0 rfl rfl (by omega) (by omega) (by rw [pk_vb]; exact hv) dX0_write_80 (fun H locs hP hD hS => ?_)
  have hP : va_P D vwCl (sW a0 a1 a2 a3 cB cI n (va_up L.1 ((64 * bk) + i) x, va_up L.2.1 L.2.2.2 ((64 * bk) + i), va_up L.2.2.1 L.2.2.2 (L.1 ((64 * bk) + i)), L.2.2.2 + 1)) H := hP
  have hD : va_D A (sW a0 a1 a2 a3 cB cI n (va_up L.1 ((64 * bk) + i) x, va_up L.2.1 L.2.2.2 ((64 * bk) + i), va_up L.2.2.1 L.2.2.2 (L.1 ((64 * bk) + i)), L.2.2.2 + 1)) := hD
  exact rt_v hx hb hr hlocks hP hD hS dX0_write_81
set_option maxRecDepth 100000 in
set_option maxHeartbeats 4000000 in
/-- sumOf(block) -/
theorem c_X0_sumOf (l : Launch) (D : va_G) (a0 a1 a2 a3 : Nat) (cB cI : ClassId) (n : Nat) (L : Lg) (bk : Nat) (hn : n ≤ 64) (hg : ∀ j, L.1 j < 256) (h1 : bk < n) : Met l yX0_sumOf wsX0_sumOf ({ frames := 2, cells := 0, slots := 0, locals := 44 }) (rP [.ref a0, .int (nI bk)] D (sW a0 a1 a2 a3 cB cI n L) (ty2 cB cI)) (vp_Si (fun r => r = smS L.1 (64 * bk) 60)) 0 0 (fun _ => False) := by
  refine met_r (by decide) rfl (Nat.le_of_ble_eq_true rfl) ?_
  intro p e s m below meth c hx hb hml hr hlocks hown hts hP hK ls hl
  have hown : s.vm.findClass RX0 = some m.cls := hown
  have hinX0 : ∀ w ∈ u_ws RX0 TX0 5, w ∈ wsX0_sumOf := by decide +kernel
  have hl : lv_has ls 5 [(0, .ref a0), (1, .int (nI bk))] := hl
  have loop : ∀ (fu k : Nat) (sv : Int32), k ≤ 60 → 60 - k < fu → sv = smS L.1 (64 * bk) k → ∀ ls : Array Slot, lv_has ls 5 [(3, .int (nI k)), (2, .int sv), (0, .ref a0), (1, .int (nI bk))] → W p l e ({ frames := 2, cells := 0, slots := 0, locals := 44 }) s m [.ref a0, .int (nI bk)].toArray below meth c s.heap [] 0 0 (MQ below (vp_Si (fun r => r = smS L.1 (64 * bk) 60)) [.ref a0, .int (nI bk)].toArray s 0 0 (fun _ => False)) (F0 m 4 ls []) := by
    intro fu
    induction fu with
    | zero => intro k sv hk hf; omega
    | succ fu ih =>
      intro k sv hk hf hs ls hl
      refine lv_iload_n hx hb dX0_sumOf_4 rfl (lv_at hl 0 rfl) ?_
      refine lv_bipush (v := nI 60) hx hb dX0_sumOf_5 (by decide +kernel) ?_
      refine jb_ge (tgt := 41) hx hb (nI_toInt (n := k) (by omega)) (nI_toInt (n := 60) (by decide)) dX0_sumOf_7 (by decide) (fun c1 => ?_) (fun c1 => ?_)
      · skip
        refine lv_iload_n hx hb dX0_sumOf_41 rfl (lv_at hl 1 rfl) ?_
        have hk9 : k = 60 := by omega
        subst hk9
        exact rt_i hx hb hr hlocks dX0_sumOf_42 hs
      · skip
        refine lv_iload_n hx hb dX0_sumOf_10 rfl (lv_at hl 1 rfl) ?_
        refine lv_aload_n hx hb dX0_sumOf_11 rfl (lv_at hl 2 rfl) ?_
        refine lv_iload_n hx hb dX0_sumOf_12 rfl (lv_at hl 3 rfl) ?_
        refine lv_iload_n hx hb dX0_sumOf_13 rfl (lv_at hl 0 rfl) ?_
        refine rd_V (As := [.int (nI bk), .int (nI k)]) (rest := [.int sv]) ⟨hx, hb, hml, hown, hts⟩ (c_X0_read l D a0 a1 a2 a3 cB cI n L bk k hn hg h1 (by omega)) (cwV 2 hts gX0_sumOf_X0_read rfl rfl rfl (by decide +kernel) ⟨Nat.le_of_ble_eq_true rfl, Nat.le_of_ble_eq_true rfl⟩) hK hP [0, 1, 2, 3] rfl (ci := 1) rfl rfl (q0 := 0) rfl rfl hl.1 rfl (Nat.le_of_ble_eq_true rfl) dX0_sumOf_14 ⟨Nat.zero_le _, Nat.zero_le _⟩ (fun r2 hr2 => ?_)
        subst hr2
        refine lv_ixor hx hb dX0_sumOf_17 ?_
        refine lv_istore (lv' := [(4, .int (sv ^^^ nI (L.1 (64 * bk + k)))), (3, .int (nI k)), (2, .int sv), (0, .ref a0), (1, .int (nI bk))]) hx hb dX0_sumOf_18 hl (by decide) rfl (fun ls hl => ?_)
        refine lv_iload hx hb dX0_sumOf_20 (lv_at hl 0 rfl) ?_
        refine lv_bipush (v := nI 17) hx hb dX0_sumOf_22 (by decide +kernel) ?_
        refine lv_ishl hx hb dX0_sumOf_24 ?_
        refine lv_iload hx hb dX0_sumOf_25 (lv_at hl 0 rfl) ?_
        refine lv_bipush (v := nI 15) hx hb dX0_sumOf_27 (by decide +kernel) ?_
        refine lv_iushr (v := ((sv ^^^ nI (L.1 (64 * bk + k))).toUInt32 >>> ((nI 15).toUInt32 &&& Int32.toUInt32 31)).toInt32) hx hb dX0_sumOf_29 rfl ?_
        refine lv_ior hx hb dX0_sumOf_30 ?_
        refine lv_ldc (v := (-2048144789)) hx hb hown (hts (.constant RX0 53 (-2048144789)) (by decide +kernel)) dX0_sumOf_31 ?_
        refine lv_imul hx hb dX0_sumOf_33 ?_
        refine lv_istore_n (lv' := [(2, .int ((((sv ^^^ nI (L.1 (64 * bk + k))) <<< (nI 17 &&& 31)) ||| (((sv ^^^ nI (L.1 (64 * bk + k))).toUInt32 >>> ((nI 15).toUInt32 &&& Int32.toUInt32 31)).toInt32)) * (-2048144789))), (4, .int (sv ^^^ nI (L.1 (64 * bk + k)))), (3, .int (nI k)), (0, .ref a0), (1, .int (nI bk))]) hx hb dX0_sumOf_34 rfl hl (by decide) rfl (fun ls hl => ?_)
        refine lv_iinc (v := nI (k + 1)) (lv' := [(3, .int (nI (k + 1))), (2, .int ((((sv ^^^ nI (L.1 (64 * bk + k))) <<< (nI 17 &&& 31)) ||| (((sv ^^^ nI (L.1 (64 * bk + k))).toUInt32 >>> ((nI 15).toUInt32 &&& Int32.toUInt32 31)).toInt32)) * (-2048144789))), (4, .int (sv ^^^ nI (L.1 (64 * bk + k)))), (0, .ref a0), (1, .int (nI bk))]) hx hb dX0_sumOf_35 hl (k := 2) rfl (nI_add _ 1) (by decide) rfl (fun ls hl => ?_)
        refine lv_goto (tgt := 4) hx hb dX0_sumOf_38 (by decide) ?_
        exact ih (k + 1) _ (by omega) (by omega) (by rw [hs]; rfl) ls (lv_sub hl [0, 1, 3, 4] rfl)
  refine lv_iconst (v := nI 1) hx hb dX0_sumOf_0 (by decide +kernel) ?_
  refine lv_istore_n (lv' := [(2, .int (nI 1)), (0, .ref a0), (1, .int (nI bk))]) hx hb dX0_sumOf_1 rfl hl (by decide) rfl (fun ls hl => ?_)
  refine lv_iconst (v := nI 0) hx hb dX0_sumOf_2 (by decide +kernel) ?_
  refine lv_istore_n (lv' := [(3, .int (nI 0)), (2, .int (nI 1)), (0, .ref a0), (1, .int (nI bk))]) hx hb dX0_sumOf_3 rfl hl (by decide) rfl (fun ls hl => ?_)
  exact loop 61 0 _ (by omega) (by omega) rfl ls (lv_sub hl [0, 1, 2, 3] rfl)
set_option maxRecDepth 100000 in
set_option maxHeartbeats 4000000 in
/-- writeSum(block) -/
theorem c_X0_writeSum (l : Launch) (D : va_G) (a0 a1 a2 a3 : Nat) (cB cI : ClassId) (n : Nat) (L : Lg) (bk : Nat) (sz : Nat) (hn : n ≤ 64) (hg : ∀ j, L.1 j < 256) (h1 : bk < n) (hw : L.2.2.2 + 4 ≤ 129) : Met l yX0_writeSum wsX0_writeSum ({ frames := 3, cells := 0, slots := 0, locals := 68 }) (wP [.ref a0, .int (nI bk)] D (sW a0 a1 a2 a3 cB cI n L) (ty2 cB cI) sz) (wQv D (sW a0 a1 a2 a3 cB cI n (wS L (64 * bk))) (va_A (sW a0 a1 a2 a3 cB cI n L) sz)) 0 0 (va_A (sW a0 a1 a2 a3 cB cI n L) sz) := by
  refine met_w (by decide) rfl (Nat.le_of_ble_eq_true rfl) ?_
  intro p e s m below meth c hx hb hml hr hlocks hown hts hP hK A hD hA hS ls hl
  have hown : s.vm.findClass RX0 = some m.cls := hown
  have hinX0 : ∀ w ∈ u_ws RX0 TX0 5, w ∈ wsX0_writeSum := by decide +kernel
  have hl : lv_has ls 4 [(0, .ref a0), (1, .int (nI bk))] := hl
  have loop : ∀ (fu k : Nat), k ≤ 4 → 4 - k < fu → ∀ (H : Heap) (locs : List Loc), va_P D vwCl (sW a0 a1 a2 a3 cB cI n (wN L (64 * bk + 60) (sby (smS L.1 (64 * bk) 60)) k)) H → va_D A (sW a0 a1 a2 a3 cB cI n (wN L (64 * bk + 60) (sby (smS L.1 (64 * bk) 60)) k)) → va_S A s.heap H locs → ∀ ls : Array Slot, lv_has ls 4 [(3, .int (nI (60 + k))), (2, .int (smS L.1 (64 * bk) 60)), (0, .ref a0), (1, .int (nI bk))] → W p l e ({ frames := 3, cells := 0, slots := 0, locals := 68 }) s m [.ref a0, .int (nI bk)].toArray below meth c H locs 0 0 (MQ below (wQv D (sW a0 a1 a2 a3 cB cI n (wS L (64 * bk))) A) [.ref a0, .int (nI bk)].toArray s 0 0 A) (F0 m 9 ls []) := by
    intro fu
    induction fu with
    | zero => intro k hk hf; omega
    | succ fu ih =>
      intro k hk hf H locs hP hD hS ls hl
      refine lv_iload_n hx hb dX0_writeSum_9 rfl (lv_at hl 0 rfl) ?_
      refine lv_bipush (v := nI 64) hx hb dX0_writeSum_10 (by decide +kernel) ?_
      refine jb_ge (tgt := 36) hx hb (nI_toInt (n := 60 + k) (by omega)) (nI_toInt (n := 64) (by decide)) dX0_writeSum_12 (by decide) (fun c1 => ?_) (fun c1 => ?_)
      · skip
        have hk9 : k = 4 := by omega
        subst hk9
        exact rt_v hx hb hr hlocks hP hD hS dX0_writeSum_36
      · skip
        refine lv_aload_n hx hb dX0_writeSum_15 rfl (lv_at hl 2 rfl) ?_
        refine lv_iload_n hx hb dX0_writeSum_16 rfl (lv_at hl 3 rfl) ?_
        refine lv_iload_n hx hb dX0_writeSum_17 rfl (lv_at hl 0 rfl) ?_
        refine lv_iload_n hx hb dX0_writeSum_18 rfl (lv_at hl 1 rfl) ?_
        refine lv_bipush (v := nI 8) hx hb dX0_writeSum_19 (by decide +kernel) ?_
        refine lv_iload_n hx hb dX0_writeSum_21 rfl (lv_at hl 0 rfl) ?_
        refine lv_bipush (v := nI 60) hx hb dX0_writeSum_22 (by decide +kernel) ?_
        refine lv_isub hx hb dX0_writeSum_24 ?_
        refine lv_as (y := nI ((60 + k) - 60)) (pk_sub (by omega)) ?_
        refine lv_imul hx hb dX0_writeSum_25 ?_
        refine lv_as (y := nI (8 * ((60 + k) - 60))) (pk_mul _ _) ?_
        refine lv_as (y := nI (8 * k)) (congrArg nI (by omega)) ?_
        refine lv_iushr (v := ((smS L.1 (64 * bk) 60).toUInt32 >>> ((nI (8 * k)).toUInt32 &&& Int32.toUInt32 31)).toInt32) hx hb dX0_writeSum_26 rfl ?_
        refine wr_V (wr := []) (wo := (sW a0 a1 a2 a3 cB cI n (w1 (wN L (64 * bk + 60) (sby (smS L.1 (64 * bk) 60)) k) (64 * bk + (60 + k)) ((sby (smS L.1 (64 * bk) 60)) k)))) (As := [.int (nI bk), .int (nI (60 + k)), .int (((smS L.1 (64 * bk) 60).toUInt32 >>> ((nI (8 * k)).toUInt32 &&& Int32.toUInt32 31)).toInt32)]) (rest := []) ⟨hx, hb, hml, hown, hts⟩ (c_X0_write l D a0 a1 a2 a3 cB cI n (wN L (64 * bk + 60) (sby (smS L.1 (64 * bk) 60)) k) bk (60 + k) (((smS L.1 (64 * bk) 60).toUInt32 >>> ((nI (8 * k)).toUInt32 &&& Int32.toUInt32 31)).toInt32) ((sby (smS L.1 (64 * bk) 60)) k) H.size  hn h1 (by omega) (by rw [wN_c]; omega) (sby_b _ k (by omega))) (cwV 3 hts gX0_writeSum_X0_write rfl rfl rfl (by decide +kernel) ⟨Nat.le_of_ble_eq_true rfl, Nat.le_of_ble_eq_true rfl⟩) hK hP hD hS hA [0, 1, 2, 3] [] rfl rfl rfl rfl (by decide) [0, 1, 2, 3] rfl rfl (ci := 1) rfl rfl (q0 := 0) rfl rfl hl.1 rfl (Nat.le_of_ble_eq_true rfl) dX0_writeSum_27 ⟨Nat.zero_le _, Nat.zero_le _⟩ (fun H locs hP hD hS => ?_)
        have e9 : w1 (wN L (64 * bk + 60) (sby (smS L.1 (64 * bk) 60)) k) (64 * bk + (60 + k)) ((sby (smS L.1 (64 * bk) 60)) k) = wN L (64 * bk + 60) (sby (smS L.1 (64 * bk) 60)) (k + 1) := by show w1 _ _ _ = w1 _ _ _; rw [show 64 * bk + (60 + k) = 64 * bk + 60 + k by omega]
        rw [e9] at hP hD
        refine lv_iinc (v := nI (60 + k + 1)) (lv' := [(3, .int (nI (60 + k + 1))), (2, .int (smS L.1 (64 * bk) 60)), (0, .ref a0), (1, .int (nI bk))]) hx hb dX0_writeSum_30 hl (k := 0) rfl (nI_add _ 1) (by decide) rfl (fun ls hl => ?_)
        refine lv_goto (tgt := 9) hx hb dX0_writeSum_33 (by decide) ?_
        exact ih (k + 1) (by omega) (by omega) H locs hP hD hS ls (lv_sub hl [0, 1, 2, 3] rfl)
  refine lv_aload_n hx hb dX0_writeSum_0 rfl (lv_at hl 0 rfl) ?_
  refine lv_iload_n hx hb dX0_writeSum_1 rfl (lv_at hl 1 rfl) ?_
  refine rd_V (As := [.int (nI bk)]) (rest := []) ⟨hx, hb, hml, hown, hts⟩ (c_X0_sumOf l D a0 a1 a2 a3 cB cI n L bk hn hg h1) (cwV 1 hts gX0_writeSum_X0_sumOf rfl rfl rfl (by decide +kernel) ⟨Nat.le_of_ble_eq_true rfl, Nat.le_of_ble_eq_true rfl⟩) hK hP [0, 1, 2, 3] rfl (ci := 1) rfl rfl (q0 := 0) rfl rfl hl.1 rfl (Nat.le_of_ble_eq_true rfl) dX0_writeSum_2 ⟨Nat.zero_le _, Nat.zero_le _⟩ (fun r2 hr2 => ?_)
  subst hr2
  refine lv_istore_n (lv' := [(2, .int (smS L.1 (64 * bk) 60)), (0, .ref a0), (1, .int (nI bk))]) hx hb dX0_writeSum_5 rfl hl (by decide) rfl (fun ls hl => ?_)
  refine lv_bipush (v := nI 60) hx hb dX0_writeSum_6 (by decide +kernel) ?_
  refine lv_istore_n (lv' := [(3, .int (nI 60)), (2, .int (smS L.1 (64 * bk) 60)), (0, .ref a0), (1, .int (nI bk))]) hx hb dX0_writeSum_8 rfl hl (by decide) rfl (fun ls hl => ?_)
  exact loop 5 0 (by omega) (by omega) s.heap [] hP hD hS ls (lv_sub hl [0, 1, 2, 3] rfl)
set_option maxRecDepth 100000 in
set_option maxHeartbeats 4000000 in
/-- hasRightSum(block) -/
theorem c_X0_hasRightSum (l : Launch) (D : va_G) (a0 a1 a2 a3 : Nat) (cB cI : ClassId) (n : Nat) (L : Lg) (bk : Nat) (hn : n ≤ 64) (hg : ∀ j, L.1 j < 256) (h1 : bk < n) : Met l yX0_hasRightSum wsX0_hasRightSum ({ frames := 3, cells := 0, slots := 0, locals := 68 }) (rP [.ref a0, .int (nI bk)] D (sW a0 a1 a2 a3 cB cI n L) (ty2 cB cI)) (vp_Si (fun r => r = nI (b01 (okS L.1 (64 * bk))))) 0 0 (fun _ => False) := by
  refine met_r (by decide) rfl (Nat.le_of_ble_eq_true rfl) ?_
  intro p e s m below meth c hx hb hml hr hlocks hown hts hP hK ls hl
  have hown : s.vm.findClass RX0 = some m.cls := hown
  have hinX0 : ∀ w ∈ u_ws RX0 TX0 5, w ∈ wsX0_hasRightSum := by decide +kernel
  have hl : lv_has ls 4 [(0, .ref a0), (1, .int (nI bk))] := hl
  have loop : ∀ (fu k : Nat), k ≤ 4 → 4 - k < fu → (∀ j, j < k → L.1 (64 * bk + 60 + j) = (sby (smS L.1 (64 * bk) 60)) j) → ∀ ls : Array Slot, lv_has ls 4 [(3, .int (nI (60 + k))), (2, .int (smS L.1 (64 * bk) 60)), (0, .ref a0), (1, .int (nI bk))] → W p l e ({ frames := 3, cells := 0, slots := 0, locals := 68 }) s m [.ref a0, .int (nI bk)].toArray below meth c s.heap [] 0 0 (MQ below (vp_Si (fun r => r = nI (b01 (okS L.1 (64 * bk))))) [.ref a0, .int (nI bk)].toArray s 0 0 (fun _ => False)) (F0 m 9 ls []) := by
    intro fu
    induction fu with
    | zero => intro k hk hf; omega
    | succ fu ih =>
      intro k hk hf hi ls hl
      refine lv_iload_n hx hb dX0_hasRightSum_9 rfl (lv_at hl 0 rfl) ?_
      refine lv_bipush (v := nI 64) hx hb dX0_hasRightSum_10 (by decide +kernel) ?_
      refine jb_ge (tgt := 45) hx hb (nI_toInt (n := 60 + k) (by omega)) (nI_toInt (n := 64) (by decide)) dX0_hasRightSum_12 (by decide) (fun c1 => ?_) (fun c1 => ?_)
      · skip
        refine lv_iconst (v := nI 1) hx hb dX0_hasRightSum_45 (by decide +kernel) ?_
        have hk9 : k = 4 := by omega
        subst hk9
        exact rt_z hx hb hr hlocks dX0_hasRightSum_46 (by decide +kernel) (by rw [b01_t (show okS L.1 (64 * bk) from hi)])
      · skip
        refine lv_aload_n hx hb dX0_hasRightSum_15 rfl (lv_at hl 2 rfl) ?_
        refine lv_iload_n hx hb dX0_hasRightSum_16 rfl (lv_at hl 3 rfl) ?_
        refine lv_iload_n hx hb dX0_hasRightSum_17 rfl (lv_at hl 0 rfl) ?_
        refine rd_V (As := [.int (nI bk), .int (nI (60 + k))]) (rest := []) ⟨hx, hb, hml, hown, hts⟩ (c_X0_read l D a0 a1 a2 a3 cB cI n L bk (60 + k) hn hg h1 (by omega)) (cwV 2 hts gX0_hasRightSum_X0_read rfl rfl rfl (by decide +kernel) ⟨Nat.le_of_ble_eq_true rfl, Nat.le_of_ble_eq_true rfl⟩) hK hP [0, 1, 2, 3] rfl (ci := 1) rfl rfl (q0 := 0) rfl rfl hl.1 rfl (Nat.le_of_ble_eq_true rfl) dX0_hasRightSum_18 ⟨Nat.zero_le _, Nat.zero_le _⟩ (fun r2 hr2 => ?_)
        subst hr2
        have g9 := hg (64 * bk + (60 + k))
        have s9 := sby_lt (smS L.1 (64 * bk) 60) k
        have e9 : 64 * bk + 60 + k = 64 * bk + (60 + k) := by omega
        refine lv_iload_n hx hb dX0_hasRightSum_21 rfl (lv_at hl 1 rfl) ?_
        refine lv_bipush (v := nI 8) hx hb dX0_hasRightSum_22 (by decide +kernel) ?_
        refine lv_iload_n hx hb dX0_hasRightSum_24 rfl (lv_at hl 0 rfl) ?_
        refine lv_bipush (v := nI 60) hx hb dX0_hasRightSum_25 (by decide +kernel) ?_
        refine lv_isub hx hb dX0_hasRightSum_27 ?_
        refine lv_as (y := nI ((60 + k) - 60)) (pk_sub (by omega)) ?_
        refine lv_imul hx hb dX0_hasRightSum_28 ?_
        refine lv_as (y := nI (8 * ((60 + k) - 60))) (pk_mul _ _) ?_
        refine lv_as (y := nI (8 * k)) (congrArg nI (by omega)) ?_
        refine lv_iushr (v := ((smS L.1 (64 * bk) 60).toUInt32 >>> ((nI (8 * k)).toUInt32 &&& Int32.toUInt32 31)).toInt32) hx hb dX0_hasRightSum_29 rfl ?_
        refine lv_sipush (v := nI 255) hx hb dX0_hasRightSum_30 (by decide +kernel) ?_
        refine lv_iand hx hb dX0_hasRightSum_33 ?_
        refine lv_as (y := nI ((sby (smS L.1 (64 * bk) 60)) k)) (sby_and _ k (by omega)) ?_
        refine jb_eq (tgt := 39) hx hb (nI_toInt (n := L.1 (64 * bk + (60 + k))) (by omega)) (nI_toInt (n := (sby (smS L.1 (64 * bk) 60)) k) (by omega)) dX0_hasRightSum_34 (by decide) (fun cq => ?_) (fun cq => ?_)
        · skip
          refine lv_iinc (v := nI (60 + k + 1)) (lv' := [(3, .int (nI (60 + k + 1))), (2, .int (smS L.1 (64 * bk) 60)), (0, .ref a0), (1, .int (nI bk))]) hx hb dX0_hasRightSum_39 hl (k := 0) rfl (nI_add _ 1) (by decide) rfl (fun ls hl => ?_)
          refine lv_goto (tgt := 9) hx hb dX0_hasRightSum_42 (by decide) ?_
          exact ih (k + 1) (by omega) (by omega) (fun j hj => (Nat.lt_or_eq_of_le (Nat.le_of_lt_succ hj)).elim (hi j) (fun q => by rw [q, e9]; exact Int.ofNat_inj.mp cq)) ls (lv_sub hl [0, 1, 2, 3] rfl)
        · skip
          refine lv_iconst (v := nI 0) hx hb dX0_hasRightSum_37 (by decide +kernel) ?_
          exact rt_z hx hb hr hlocks dX0_hasRightSum_38 (by decide +kernel) (by rw [b01_f (fun h => cq (by have h2 := h k (by omega); rw [e9] at h2; rw [h2]))])
  refine lv_aload_n hx hb dX0_hasRightSum_0 rfl (lv_at hl 0 rfl) ?_
  refine lv_iload_n hx hb dX0_hasRightSum_1 rfl (lv_at hl 1 rfl) ?_
  refine rd_V (As := [.int (nI bk)]) (rest := []) ⟨hx, hb, hml, hown, hts⟩ (c_X0_sumOf l D a0 a1 a2 a3 cB cI n L bk hn hg h1) (cwV 1 hts gX0_hasRightSum_X0_sumOf rfl rfl rfl (by decide +kernel) ⟨Nat.le_of_ble_eq_true rfl, Nat.le_of_ble_eq_true rfl⟩) hK hP [0, 1, 2, 3] rfl (ci := 1) rfl rfl (q0 := 0) rfl rfl hl.1 rfl (Nat.le_of_ble_eq_true rfl) dX0_hasRightSum_2 ⟨Nat.zero_le _, Nat.zero_le _⟩ (fun r3 hr3 => ?_)
  subst hr3
  refine lv_istore_n (lv' := [(2, .int (smS L.1 (64 * bk) 60)), (0, .ref a0), (1, .int (nI bk))]) hx hb dX0_hasRightSum_5 rfl hl (by decide) rfl (fun ls hl => ?_)
  refine lv_bipush (v := nI 60) hx hb dX0_hasRightSum_6 (by decide +kernel) ?_
  refine lv_istore_n (lv' := [(3, .int (nI 60)), (2, .int (smS L.1 (64 * bk) 60)), (0, .ref a0), (1, .int (nI bk))]) hx hb dX0_hasRightSum_8 rfl hl (by decide) rfl (fun ls hl => ?_)
  exact loop 5 0 (by omega) (by omega) (fun j hj => absurd hj (Nat.not_lt_zero j)) ls (lv_sub hl [0, 1, 2, 3] rfl)
set_option maxRecDepth 100000 in
set_option maxHeartbeats 4000000 in
/-- undoAllBut(kept) -/
theorem c_X0_undoAllBut (l : Launch) (D : va_G) (a0 a1 a2 a3 : Nat) (cB cI : ClassId) (n : Nat) (L : Lg) (kp : Nat) (sz : Nat) (hn : n ≤ 64) (h1 : kp ≤ L.2.2.2) (h2 : L.2.2.2 ≤ 129) (hp : ∀ k, k < L.2.2.2 → L.2.1 k < 64 * n) : Met l yX0_undoAllBut wsX0_undoAllBut ({ frames := 1, cells := 0, slots := 0, locals := 21 }) (wP [.ref a0, .int (nI kp)] D (sW a0 a1 a2 a3 cB cI n L) (ty2 cB cI) sz) (wQv D (sW a0 a1 a2 a3 cB cI n (wU L kp)) (va_A (sW a0 a1 a2 a3 cB cI n L) sz)) 0 0 (va_A (sW a0 a1 a2 a3 cB cI n L) sz) := by
  refine met_w (by decide) rfl (Nat.le_of_ble_eq_true rfl) ?_
  intro p e s m below meth c hx hb hml hr hlocks hown hts hP hK A hD hA hS ls hl
  have hown : s.vm.findClass RX0 = some m.cls := hown
  have hinX0 : ∀ w ∈ u_ws RX0 TX0 5, w ∈ wsX0_undoAllBut := by decide +kernel
  have hl : lv_has ls 4 [(0, .ref a0), (1, .int (nI kp))] := hl
  have loop : ∀ (fu j : Nat), kp + j ≤ L.2.2.2 → L.2.2.2 - (kp + j) < fu → ∀ (H : Heap) (locs : List Loc), va_P D vwCl (sW a0 a1 a2 a3 cB cI n (unA L kp j, L.2.1, L.2.2.1, L.2.2.2)) H → va_D A (sW a0 a1 a2 a3 cB cI n (unA L kp j, L.2.1, L.2.2.1, L.2.2.2)) → va_S A s.heap H locs → ∀ ls : Array Slot, lv_has ls 4 [(2, .int (nI (kp + j))), (0, .ref a0), (1, .int (nI kp))] → W p l e ({ frames := 1, cells := 0, slots := 0, locals := 21 }) s m [.ref a0, .int (nI kp)].toArray below meth c H locs 0 0 (MQ below (wQv D (sW a0 a1 a2 a3 cB cI n (wU L kp)) A) [.ref a0, .int (nI kp)].toArray s 0 0 A) (F0 m 6 ls []) := by
    intro fu
    induction fu with
    | zero => intro j hk hf; omega
    | succ fu ih =>
      intro j hk hf H locs hP hD hS ls hl
      refine lv_iload_n hx hb dX0_undoAllBut_6 rfl (lv_at hl 0 rfl) ?_
      refine lv_aload_n hx hb dX0_undoAllBut_7 rfl (lv_at hl 1 rfl) ?_
      refine va_get (D := D) (ci := 1) (v := .int (nI L.2.2.2)) (C := RX0) (T := TX0) (N := 5) hx hb hts hinX0 hown hK hP 0 rfl rfl 4 (by decide) (hts (.fieldLink RX0 19 "PuzzleBook$Store" "changed" "I") (by decide +kernel)) (fun _ h9 => h9) rfl dX0_undoAllBut_8 ?_
      refine jb_ge (tgt := 59) hx hb (nI_toInt (n := kp + j) (by omega)) (nI_toInt (n := L.2.2.2) (by omega)) dX0_undoAllBut_11 (by decide) (fun c1 => ?_) (fun c1 => ?_)
      · skip
        refine lv_aload_n hx hb dX0_undoAllBut_59 rfl (lv_at hl 1 rfl) ?_
        refine lv_iconst (v := nI 0) hx hb dX0_undoAllBut_60 (by decide +kernel) ?_
        refine va_put (D := D) (ci := 1) (v := .int (nI 0)) (ty := .int) (C := RX0) (T := TX0) (N := 5) hx hb hts hinX0 tyX0 tyX0_ok nmX0 hown hK hP hD hS 0 rfl rfl 4 (by decide) (hts (.fieldLink RX0 19 "PuzzleBook$Store" "changed" "I") (by decide +kernel)) (fun _ h9 => h9) rfl (by decide +kernel) rfl rfl (Nat.le_of_ble_eq_true rfl) dX0_undoAllBut_61 (fun H locs hP hD hS => ?_)
        have hP : va_P D vwCl (sW a0 a1 a2 a3 cB cI n (unA L kp j, L.2.1, L.2.2.1, 0)) H := hP
        have hD : va_D A (sW a0 a1 a2 a3 cB cI n (unA L kp j, L.2.1, L.2.2.1, 0)) := hD
        have hk9 : L.2.2.2 - kp = j := by omega
        have e9 : wU L kp = (unA L kp j, L.2.1, L.2.2.1, 0) := by unfold wU; rw [hk9]
        rw [e9]
        exact rt_v hx hb hr hlocks hP hD hS dX0_undoAllBut_64
      · skip
        refine lv_iload_n hx hb dX0_undoAllBut_14 rfl (lv_at hl 0 rfl) ?_
        refine lv_sipush (v := nI 129) hx hb dX0_undoAllBut_15 (by decide +kernel) ?_
        refine jb_ge (tgt := 59) hx hb (nI_toInt (n := kp + j) (by omega)) (nI_toInt (n := 129) (by decide)) dX0_undoAllBut_18 (by decide) (fun c2 => absurd c2 (by omega)) (fun c2 => ?_)
        have p9 := hp (kp + j) (by omega)
        refine lv_aload_n hx hb dX0_undoAllBut_21 rfl (lv_at hl 1 rfl) ?_
        refine va_get (D := D) (ci := 1) (v := .ref a2) (C := RX0) (T := TX0) (N := 5) hx hb hts hinX0 hown hK hP 0 rfl rfl 2 (by decide) (hts (.fieldLink RX0 9 "PuzzleBook$Store" "changedPlaces" "[I") (by decide +kernel)) (fun _ h9 => h9) rfl dX0_undoAllBut_22 ?_
        refine lv_iload_n hx hb dX0_undoAllBut_25 rfl (lv_at hl 0 rfl) ?_
        refine ld_i (f := L.2.1) (k := kp + j) hx hb hK hP 2 1 rfl rfl (by omega) (by decide) dX0_undoAllBut_26 ?_
        refine lv_istore_n (lv' := [(3, .int (nI (L.2.1 (kp + j)))), (2, .int (nI (kp + j))), (0, .ref a0), (1, .int (nI kp))]) hx hb dX0_undoAllBut_27 rfl hl (by decide) rfl (fun ls hl => ?_)
        refine lv_iload_n hx hb dX0_undoAllBut_28 rfl (lv_at hl 0 rfl) ?_
        refine j0_lt (tgt := 53) hx hb (nI_toInt (n := L.2.1 (kp + j)) (by omega)) dX0_undoAllBut_29 (by decide) (fun c3 => absurd c3 (by omega)) (fun c3 => ?_)
        refine lv_iload_n hx hb dX0_undoAllBut_32 rfl (lv_at hl 0 rfl) ?_
        refine lv_aload_n hx hb dX0_undoAllBut_33 rfl (lv_at hl 2 rfl) ?_
        refine va_get (D := D) (ci := 1) (v := .ref a1) (C := RX0) (T := TX0) (N := 5) hx hb hts hinX0 hown hK hP 0 rfl rfl 1 (by decide) (hts (.fieldLink RX0 35 "PuzzleBook$Store" "bytes" "[B") (by decide +kernel)) (fun _ h9 => h9) rfl dX0_undoAllBut_34 ?_
        refine al_i hx hb hK hP 1 0 rfl rfl dX0_undoAllBut_37 ?_
        refine jb_ge (tgt := 53) hx hb (nI_toInt (n := L.2.1 (kp + j)) (by omega)) (nI_toInt (n := (64 * n)) (by omega)) dX0_undoAllBut_38 (by decide) (fun c4 => absurd c4 (by omega)) (fun c4 => ?_)
        refine lv_aload_n hx hb dX0_undoAllBut_41 rfl (lv_at hl 2 rfl) ?_
        refine va_get (D := D) (ci := 1) (v := .ref a1) (C := RX0) (T := TX0) (N := 5) hx hb hts hinX0 hown hK hP 0 rfl rfl 1 (by decide) (hts (.fieldLink RX0 35 "PuzzleBook$Store" "bytes" "[B") (by decide +kernel)) (fun _ h9 => h9) rfl dX0_undoAllBut_42 ?_
        refine lv_iload_n hx hb dX0_undoAllBut_45 rfl (lv_at hl 0 rfl) ?_
        refine lv_aload_n hx hb dX0_undoAllBut_46 rfl (lv_at hl 2 rfl) ?_
        refine va_get (D := D) (ci := 1) (v := .ref a3) (C := RX0) (T := TX0) (N := 5) hx hb hts hinX0 hown hK hP 0 rfl rfl 3 (by decide) (hts (.fieldLink RX0 15 "PuzzleBook$Store" "formerBytes" "[B") (by decide +kernel)) (fun _ h9 => h9) rfl dX0_undoAllBut_47 ?_
        refine lv_iload_n hx hb dX0_undoAllBut_50 rfl (lv_at hl 1 rfl) ?_
        refine ld_b (f := L.2.2.1) (k := kp + j) hx hb hK hP 3 0 rfl rfl (by omega) (by decide) dX0_undoAllBut_51 ?_
        refine st_b (f := unA L kp j) (k := L.2.1 (kp + j)) (x := (L.2.2.1 (kp + j))) hx hb hK hP hD hS 1 0 rfl rfl (by omega) (by omega) (bb_n _) dX0_undoAllBut_52 (fun H locs hP hD hS => ?_)
        have hP : va_P D vwCl (sW a0 a1 a2 a3 cB cI n (va_up (unA L kp j) (L.2.1 (kp + j)) (L.2.2.1 (kp + j)), L.2.1, L.2.2.1, L.2.2.2)) H := hP
        have hD : va_D A (sW a0 a1 a2 a3 cB cI n (va_up (unA L kp j) (L.2.1 (kp + j)) (L.2.2.1 (kp + j)), L.2.1, L.2.2.1, L.2.2.2)) := hD
        refine lv_iinc (v := nI (kp + j + 1)) (lv' := [(2, .int (nI (kp + j + 1))), (3, .int (nI (L.2.1 (kp + j)))), (0, .ref a0), (1, .int (nI kp))]) hx hb dX0_undoAllBut_53 hl (k := 1) rfl (nI_add _ 1) (by decide) rfl (fun ls hl => ?_)
        refine lv_goto (tgt := 6) hx hb dX0_undoAllBut_56 (by decide) ?_
        exact ih (j + 1) (by omega) (by omega) H locs hP hD hS ls (lv_sub hl [0, 2, 3] rfl)
  refine lv_iconst (v := nI 0) hx hb dX0_undoAllBut_0 (by decide +kernel) ?_
  refine lv_iload_n hx hb dX0_undoAllBut_1 rfl (lv_at hl 1 rfl) ?_
  refine va_mmax hx hb (hml.trans hl.1.symm) hown (hts (.methodLink RX0 29 Lib.Math.max.name) (by decide +kernel)) (hts (.static Lib.Math.max.name) (by decide +kernel)) (hts (.initialized "java/lang/Math") (by decide +kernel)) (hts (.code Lib.Math.max.name Lib.Math.max.code 2 (some .int)) (by decide +kernel)) (Nat.le_of_ble_eq_true rfl) (Nat.le_of_ble_eq_true rfl) (Nat.zero_le _) (Nat.zero_le _) dX0_undoAllBut_2 ?_
  refine lv_as (y := nI (max 0 kp)) (nI_max (by omega) (by omega)) ?_
  refine lv_as (y := nI (kp + 0)) (congrArg nI (Nat.max_eq_right (Nat.zero_le _))) ?_
  refine lv_istore_n (lv' := [(2, .int (nI (kp + 0))), (0, .ref a0), (1, .int (nI kp))]) hx hb dX0_undoAllBut_5 rfl hl (by decide) rfl (fun ls hl => ?_)
  exact loop (L.2.2.2 - kp + 1) 0 (by omega) (by omega) s.heap [] hP hD hS ls (lv_sub hl [0, 1, 2] rfl)
