/-! 10: PuzzleBookModel, its own methods (laid by wip/whole/gen/gen_model.py) -/
theorem shf_v {eb : Nat → Nat} {ec z k x : Nat} (hz : z < ec) (hk : k < ec - 1) (hq : (k < z ∧ x = k) ∨ (z ≤ k ∧ x = k + 1)) : eb x = bO (shf eb z (ec - 1 - z)) (ec - 1) k := by
  rw [bO_t hk, shf_at]
  rcases hq with ⟨h, rfl⟩ | ⟨h, rfl⟩
  · rw [if_neg (by omega)]
  · rw [if_pos (by omega)]
set_option maxRecDepth 100000 in
set_option maxHeartbeats 4000000 in
/-- thrown() -/
theorem c_X2_thrown (l : Launch) (D : va_G) (m0 m1 m2 m3 m4 m5 : Nat) (cB cI : ClassId) (n : Nat) (L : Lg) (fd : Nat → Nat) (fc : Nat) (op : Nat) (tn : Nat) (eb : Nat → Nat) (ec : Nat) (th : Nat)   : Met l yX2_thrown wsX2_thrown ({ frames := 0, cells := 0, slots := 0, locals := 0 }) (rP [.ref m0] D (mW m0 m1 m2 m3 m4 m5 cB cI n L fd fc op tn eb ec th) (ty2 cB cI)) (vp_Si (fun r => r = nI th)) 0 0 (fun _ => False) := by
  refine met_r (by decide) rfl (Nat.le_of_ble_eq_true rfl) ?_
  intro p e s m below meth c hx hb hml hr hlocks hown hts hP hK ls hl
  have hown : s.vm.findClass RX2 = some m.cls := hown
  have hinX2 : ∀ w ∈ u_ws RX2 TX2 12, w ∈ wsX2_thrown := by decide +kernel
  have hl : lv_has ls 1 [(0, .ref m0)] := hl
  refine lv_aload_n hx hb dX2_thrown_0 rfl (lv_at hl 0 rfl) ?_
  refine va_get (D := D) (ci := 3) (v := .int (nI th)) (C := RX2) (T := TX2) (N := 12) hx hb hts hinX2 hown hK hP 0 rfl rfl 5 (by decide) (hts (.fieldLink RX2 46 "PuzzleBookModel" "thrown" "I") (by decide +kernel)) (fun _ h9 => h9) rfl dX2_thrown_1 ?_
  exact rt_i hx hb hr hlocks dX2_thrown_4 rfl
set_option maxRecDepth 100000 in
set_option maxHeartbeats 4000000 in
/-- sumOf(b) -/
theorem c_X2_sumOf (l : Launch) (D : va_G) (m0 m1 m2 m3 m4 m5 : Nat) (cB cI : ClassId) (n : Nat) (L : Lg) (fd : Nat → Nat) (fc : Nat) (op : Nat) (tn : Nat) (eb : Nat → Nat) (ec : Nat) (th : Nat) (bk : Nat) (h1 : bk < 64) : Met l yX2_sumOf wsX2_sumOf ({ frames := 0, cells := 0, slots := 0, locals := 0 }) (rP [.ref m0, .int (nI bk)] D (mW m0 m1 m2 m3 m4 m5 cB cI n L fd fc op tn eb ec th) (ty2 cB cI)) (vp_Si (fun r => r = smS L.1 (64 * bk) 60)) 0 0 (fun _ => False) := by
  refine met_r (by decide) rfl (Nat.le_of_ble_eq_true rfl) ?_
  intro p e s m below meth c hx hb hml hr hlocks hown hts hP hK ls hl
  have hown : s.vm.findClass RX2 = some m.cls := hown
  have hinX2 : ∀ w ∈ u_ws RX2 TX2 12, w ∈ wsX2_sumOf := by decide +kernel
  have hl : lv_has ls 4 [(0, .ref m0), (1, .int (nI bk))] := hl
  have loop : ∀ (fu k : Nat) (sv : Int32), k ≤ 60 → 60 - k < fu → sv = smS L.1 (64 * bk) k → ∀ ls : Array Slot, lv_has ls 4 [(3, .int (nI k)), (2, .int sv), (0, .ref m0), (1, .int (nI bk))] → W p l e ({ frames := 0, cells := 0, slots := 0, locals := 0 }) s m [.ref m0, .int (nI bk)].toArray below meth c s.heap [] 0 0 (MQ below (vp_Si (fun r => r = smS L.1 (64 * bk) 60)) [.ref m0, .int (nI bk)].toArray s 0 0 (fun _ => False)) (F0 m 4 ls []) := by
    intro fu
    induction fu with
    | zero => intro k sv hk hf; omega
    | succ fu ih =>
      intro k sv hk hf hs ls hl
      refine lv_iload_n hx hb dX2_sumOf_4 rfl (lv_at hl 0 rfl) ?_
      refine lv_bipush (v := nI 60) hx hb dX2_sumOf_5 (by decide +kernel) ?_
      refine jb_ge (tgt := 45) hx hb (nI_toInt (n := k) (by omega)) (nI_toInt (n := 60) (by decide)) dX2_sumOf_7 (by decide) (fun c1 => ?_) (fun c1 => ?_)
      · skip
        refine lv_iload_n hx hb dX2_sumOf_45 rfl (lv_at hl 1 rfl) ?_
        have hk9 : 60 = k := by omega
        subst hk9
        exact rt_i hx hb hr hlocks dX2_sumOf_46 hs
      · skip
        refine lv_iload_n hx hb dX2_sumOf_10 rfl (lv_at hl 1 rfl) ?_
        refine lv_aload_n hx hb dX2_sumOf_11 rfl (lv_at hl 2 rfl) ?_
        refine va_get (D := D) (ci := 3) (v := .ref m1) (C := RX2) (T := TX2) (N := 12) hx hb hts hinX2 hown hK hP 0 rfl rfl 1 (by decide) (hts (.fieldLink RX2 7 "PuzzleBookModel" "store" "[I") (by decide +kernel)) (fun _ h9 => h9) rfl dX2_sumOf_12 ?_
        refine lv_bipush (v := nI 64) hx hb dX2_sumOf_15 (by decide +kernel) ?_
        refine lv_iload_n hx hb dX2_sumOf_17 rfl (lv_at hl 3 rfl) ?_
        refine lv_imul hx hb dX2_sumOf_18 ?_
        refine lv_as (y := nI (64 * bk)) (pk_mul _ _) ?_
        refine lv_iload_n hx hb dX2_sumOf_19 rfl (lv_at hl 0 rfl) ?_
        refine lv_iadd hx hb dX2_sumOf_20 ?_
        refine lv_as (y := nI ((64 * bk) + k)) (nI_add _ _) ?_
        refine ld_i (f := L.1) (k := (64 * bk) + k) hx hb hK hP 1 1 rfl rfl (by omega) (by decide) dX2_sumOf_21 ?_
        refine lv_ixor hx hb dX2_sumOf_22 ?_
        refine lv_istore_n (lv' := [(2, .int (sv ^^^ nI (L.1 ((64 * bk) + k)))), (3, .int (nI k)), (0, .ref m0), (1, .int (nI bk))]) hx hb dX2_sumOf_23 rfl hl (by decide) rfl (fun ls hl => ?_)
        refine lv_iload_n hx hb dX2_sumOf_24 rfl (lv_at hl 0 rfl) ?_
        refine lv_bipush (v := nI 17) hx hb dX2_sumOf_25 (by decide +kernel) ?_
        refine lv_ishl hx hb dX2_sumOf_27 ?_
        refine lv_iload_n hx hb dX2_sumOf_28 rfl (lv_at hl 0 rfl) ?_
        refine lv_bipush (v := nI 15) hx hb dX2_sumOf_29 (by decide +kernel) ?_
        refine lv_iushr (v := ((sv ^^^ nI (L.1 ((64 * bk) + k))).toUInt32 >>> ((nI 15).toUInt32 &&& Int32.toUInt32 31)).toInt32) hx hb dX2_sumOf_31 rfl ?_
        refine lv_ior hx hb dX2_sumOf_32 ?_
        refine lv_istore_n (lv' := [(2, .int (((sv ^^^ nI (L.1 ((64 * bk) + k))) <<< (nI 17 &&& 31)) ||| (((sv ^^^ nI (L.1 ((64 * bk) + k))).toUInt32 >>> ((nI 15).toUInt32 &&& Int32.toUInt32 31)).toInt32))), (3, .int (nI k)), (0, .ref m0), (1, .int (nI bk))]) hx hb dX2_sumOf_33 rfl hl (by decide) rfl (fun ls hl => ?_)
        refine lv_iload_n hx hb dX2_sumOf_34 rfl (lv_at hl 0 rfl) ?_
        refine lv_ldc (v := (-2048144789)) hx hb hown (hts (.constant RX2 49 (-2048144789)) (by decide +kernel)) dX2_sumOf_35 ?_
        refine lv_imul hx hb dX2_sumOf_37 ?_
        refine lv_istore_n (lv' := [(2, .int ((((sv ^^^ nI (L.1 ((64 * bk) + k))) <<< (nI 17 &&& 31)) ||| (((sv ^^^ nI (L.1 ((64 * bk) + k))).toUInt32 >>> ((nI 15).toUInt32 &&& Int32.toUInt32 31)).toInt32)) * (-2048144789))), (3, .int (nI k)), (0, .ref m0), (1, .int (nI bk))]) hx hb dX2_sumOf_38 rfl hl (by decide) rfl (fun ls hl => ?_)
        refine lv_iinc (v := nI (k + 1)) (lv' := [(3, .int (nI (k + 1))), (2, .int ((((sv ^^^ nI (L.1 ((64 * bk) + k))) <<< (nI 17 &&& 31)) ||| (((sv ^^^ nI (L.1 ((64 * bk) + k))).toUInt32 >>> ((nI 15).toUInt32 &&& Int32.toUInt32 31)).toInt32)) * (-2048144789))), (0, .ref m0), (1, .int (nI bk))]) hx hb dX2_sumOf_39 hl (k := 1) rfl (nI_add _ 1) (by decide) rfl (fun ls hl => ?_)
        refine lv_goto (tgt := 4) hx hb dX2_sumOf_42 (by decide) ?_
        exact ih (k + 1) _ (by omega) (by omega) (by rw [hs]; rfl) ls (lv_sub hl [0, 1, 2, 3] rfl)
  refine lv_iconst (v := nI 1) hx hb dX2_sumOf_0 (by decide +kernel) ?_
  refine lv_istore_n (lv' := [(2, .int (nI 1)), (0, .ref m0), (1, .int (nI bk))]) hx hb dX2_sumOf_1 rfl hl (by decide) rfl (fun ls hl => ?_)
  refine lv_iconst (v := nI 0) hx hb dX2_sumOf_2 (by decide +kernel) ?_
  refine lv_istore_n (lv' := [(3, .int (nI 0)), (2, .int (nI 1)), (0, .ref m0), (1, .int (nI bk))]) hx hb dX2_sumOf_3 rfl hl (by decide) rfl (fun ls hl => ?_)
  exact loop 61 0 _ (by omega) (by omega) rfl ls (lv_sub hl [0, 1, 2, 3] rfl)
set_option maxRecDepth 100000 in
set_option maxHeartbeats 4000000 in
/-- isRight(b) -/
theorem c_X2_isRight (l : Launch) (D : va_G) (m0 m1 m2 m3 m4 m5 : Nat) (cB cI : ClassId) (n : Nat) (L : Lg) (fd : Nat → Nat) (fc : Nat) (op : Nat) (tn : Nat) (eb : Nat → Nat) (ec : Nat) (th : Nat) (bk : Nat) (hg : ∀ j, L.1 j < 256) (h1 : bk < 64) : Met l yX2_isRight wsX2_isRight ({ frames := 1, cells := 0, slots := 0, locals := 23 }) (rP [.ref m0, .int (nI bk)] D (mW m0 m1 m2 m3 m4 m5 cB cI n L fd fc op tn eb ec th) (ty2 cB cI)) (vp_Si (fun r => r = nI (b01 (okS L.1 (64 * bk))))) 0 0 (fun _ => False) := by
  refine met_r (by decide) rfl (Nat.le_of_ble_eq_true rfl) ?_
  intro p e s m below meth c hx hb hml hr hlocks hown hts hP hK ls hl
  have hown : s.vm.findClass RX2 = some m.cls := hown
  have hinX2 : ∀ w ∈ u_ws RX2 TX2 12, w ∈ wsX2_isRight := by decide +kernel
  have hl : lv_has ls 4 [(0, .ref m0), (1, .int (nI bk))] := hl
  have loop : ∀ (fu k : Nat), k ≤ 4 → 4 - k < fu → (∀ j, j < k → L.1 (64 * bk + 60 + j) = (sby (smS L.1 (64 * bk) 60)) j) → ∀ ls : Array Slot, lv_has ls 4 [(3, .int (nI k)), (2, .int (smS L.1 (64 * bk) 60)), (0, .ref m0), (1, .int (nI bk))] → W p l e ({ frames := 1, cells := 0, slots := 0, locals := 23 }) s m [.ref m0, .int (nI bk)].toArray below meth c s.heap [] 0 0 (MQ below (vp_Si (fun r => r = nI (b01 (okS L.1 (64 * bk))))) [.ref m0, .int (nI bk)].toArray s 0 0 (fun _ => False)) (F0 m 8 ls []) := by
    intro fu
    induction fu with
    | zero => intro k hk hf; omega
    | succ fu ih =>
      intro k hk hf hi ls hl
      refine lv_iload_n hx hb dX2_isRight_8 rfl (lv_at hl 0 rfl) ?_
      refine lv_iconst (v := nI 4) hx hb dX2_isRight_9 (by decide +kernel) ?_
      refine jb_ge (tgt := 48) hx hb (nI_toInt (n := k) (by omega)) (nI_toInt (n := 4) (by decide)) dX2_isRight_10 (by decide) (fun c1 => ?_) (fun c1 => ?_)
      · skip
        refine lv_iconst (v := nI 1) hx hb dX2_isRight_48 (by decide +kernel) ?_
        have hk9 : 4 = k := by omega
        subst hk9
        exact rt_z hx hb hr hlocks dX2_isRight_49 (by decide +kernel) (by rw [b01_t (show okS L.1 (64 * bk) from hi)])
      · skip
        have g9 := hg (64 * bk + 60 + k)
        have s9 := sby_lt (smS L.1 (64 * bk) 60) k
        refine lv_aload_n hx hb dX2_isRight_13 rfl (lv_at hl 2 rfl) ?_
        refine va_get (D := D) (ci := 3) (v := .ref m1) (C := RX2) (T := TX2) (N := 12) hx hb hts hinX2 hown hK hP 0 rfl rfl 1 (by decide) (hts (.fieldLink RX2 7 "PuzzleBookModel" "store" "[I") (by decide +kernel)) (fun _ h9 => h9) rfl dX2_isRight_14 ?_
        refine lv_bipush (v := nI 64) hx hb dX2_isRight_17 (by decide +kernel) ?_
        refine lv_iload_n hx hb dX2_isRight_19 rfl (lv_at hl 3 rfl) ?_
        refine lv_imul hx hb dX2_isRight_20 ?_
        refine lv_as (y := nI (64 * bk)) (pk_mul _ _) ?_
        refine lv_bipush (v := nI 60) hx hb dX2_isRight_21 (by decide +kernel) ?_
        refine lv_iadd hx hb dX2_isRight_23 ?_
        refine lv_as (y := nI ((64 * bk) + 60)) (nI_add _ _) ?_
        refine lv_iload_n hx hb dX2_isRight_24 rfl (lv_at hl 0 rfl) ?_
        refine lv_iadd hx hb dX2_isRight_25 ?_
        refine lv_as (y := nI (((64 * bk) + 60) + k)) (nI_add _ _) ?_
        refine ld_i (f := L.1) (k := ((64 * bk) + 60) + k) hx hb hK hP 1 1 rfl rfl (by omega) (by decide) dX2_isRight_26 ?_
        refine lv_iload_n hx hb dX2_isRight_27 rfl (lv_at hl 1 rfl) ?_
        refine lv_bipush (v := nI 8) hx hb dX2_isRight_28 (by decide +kernel) ?_
        refine lv_iload_n hx hb dX2_isRight_30 rfl (lv_at hl 0 rfl) ?_
        refine lv_imul hx hb dX2_isRight_31 ?_
        refine lv_as (y := nI (8 * k)) (pk_mul _ _) ?_
        refine lv_iushr (v := ((smS L.1 (64 * bk) 60).toUInt32 >>> ((nI (8 * k)).toUInt32 &&& Int32.toUInt32 31)).toInt32) hx hb dX2_isRight_32 rfl ?_
        refine lv_sipush (v := nI 255) hx hb dX2_isRight_33 (by decide +kernel) ?_
        refine lv_iand hx hb dX2_isRight_36 ?_
        refine lv_as (y := nI ((sby (smS L.1 (64 * bk) 60)) k)) (sby_and _ k (by omega)) ?_
        refine jb_eq (tgt := 42) hx hb (nI_toInt (n := L.1 (((64 * bk) + 60) + k)) (by omega)) (nI_toInt (n := (sby (smS L.1 (64 * bk) 60)) k) (by omega)) dX2_isRight_37 (by decide) (fun c2 => ?_) (fun c2 => ?_)
        · skip
          refine lv_iinc (v := nI (k + 1)) (lv' := [(3, .int (nI (k + 1))), (2, .int (smS L.1 (64 * bk) 60)), (0, .ref m0), (1, .int (nI bk))]) hx hb dX2_isRight_42 hl (k := 0) rfl (nI_add _ 1) (by decide) rfl (fun ls hl => ?_)
          refine lv_goto (tgt := 8) hx hb dX2_isRight_45 (by decide) ?_
          exact ih (k + 1) (by omega) (by omega) (fun j hj => (Nat.lt_or_eq_of_le (Nat.le_of_lt_succ hj)).elim (hi j) (fun q => by rw [q]; exact Int.ofNat_inj.mp c2)) ls (lv_sub hl [0, 1, 2, 3] rfl)
        · skip
          refine lv_iconst (v := nI 0) hx hb dX2_isRight_40 (by decide +kernel) ?_
          exact rt_z hx hb hr hlocks dX2_isRight_41 (by decide +kernel) (by rw [b01_f (fun h => c2 (by rw [h k (by omega)]))])
  refine lv_aload_n hx hb dX2_isRight_0 rfl (lv_at hl 0 rfl) ?_
  refine lv_iload_n hx hb dX2_isRight_1 rfl (lv_at hl 1 rfl) ?_
  refine rd_V (As := [.int (nI bk)]) (rest := []) ⟨hx, hb, hml, hown, hts⟩ (c_X2_sumOf l D m0 m1 m2 m3 m4 m5 cB cI n L fd fc op tn eb ec th bk h1) (cwV 1 hts gX2_isRight_X2_sumOf rfl rfl rfl (by decide +kernel) ⟨Nat.le_of_ble_eq_true rfl, Nat.le_of_ble_eq_true rfl⟩) hK hP [0, 1, 2, 3, 4, 5] rfl (ci := 3) rfl rfl (q0 := 0) rfl rfl hl.1 rfl (Nat.le_of_ble_eq_true rfl) dX2_isRight_2 ⟨Nat.zero_le _, Nat.zero_le _⟩ (fun r3 hr3 => ?_)
  subst hr3
  refine lv_istore_n (lv' := [(2, .int (smS L.1 (64 * bk) 60)), (0, .ref m0), (1, .int (nI bk))]) hx hb dX2_isRight_5 rfl hl (by decide) rfl (fun ls hl => ?_)
  refine lv_iconst (v := nI 0) hx hb dX2_isRight_6 (by decide +kernel) ?_
  refine lv_istore_n (lv' := [(3, .int (nI 0)), (2, .int (smS L.1 (64 * bk) 60)), (0, .ref m0), (1, .int (nI bk))]) hx hb dX2_isRight_7 rfl hl (by decide) rfl (fun ls hl => ?_)
  exact loop 5 0 (by omega) (by omega) (fun j hj => absurd hj (Nat.not_lt_zero j)) ls (lv_sub hl [0, 1, 2, 3] rfl)
set_option maxRecDepth 100000 in
set_option maxHeartbeats 4000000 in
/-- write(place, b) -/
theorem c_X2_write (l : Launch) (D : va_G) (m0 m1 m2 m3 m4 m5 : Nat) (cB cI : ClassId) (n : Nat) (L : Lg) (fd : Nat → Nat) (fc : Nat) (op : Nat) (tn : Nat) (eb : Nat → Nat) (ec : Nat) (th : Nat) (pl x : Nat) (sz : Nat) (h1 : pl < 4096) (hw : L.2.2.2 < 129) : Met l yX2_write wsX2_write ({ frames := 0, cells := 0, slots := 0, locals := 0 }) (wP [.ref m0, .int (nI pl), .int (nI x)] D (mW m0 m1 m2 m3 m4 m5 cB cI n L fd fc op tn eb ec th) (ty2 cB cI) sz) (wQv D (mW m0 m1 m2 m3 m4 m5 cB cI n (w1 L pl x) fd fc op tn eb ec th) (va_A (mW m0 m1 m2 m3 m4 m5 cB cI n L fd fc op tn eb ec th) sz)) 0 0 (va_A (mW m0 m1 m2 m3 m4 m5 cB cI n L fd fc op tn eb ec th) sz) := by
  refine met_w (by decide) rfl (Nat.le_of_ble_eq_true rfl) ?_
  intro p e s m below meth c hx hb hml hr hlocks hown hts hP hK A hD hA hS ls hl
  have hown : s.vm.findClass RX2 = some m.cls := hown
  have hinX2 : ∀ w ∈ u_ws RX2 TX2 12, w ∈ wsX2_write := by decide +kernel
  have hl : lv_has ls 3 [(0, .ref m0), (1, .int (nI pl)), (2, .int (nI x))] := hl
  refine lv_aload_n hx hb dX2_write_0 rfl (lv_at hl 0 rfl) ?_
  refine va_get (D := D) (ci := 3) (v := .ref m4) (C := RX2) (T := TX2) (N := 12) hx hb hts hinX2 hown hK hP 0 rfl rfl 9 (by decide) (hts (.fieldLink RX2 19 "PuzzleBookModel" "where" "[I") (by decide +kernel)) (fun _ h9 => h9) rfl dX2_write_1 ?_
  refine lv_aload_n hx hb dX2_write_4 rfl (lv_at hl 0 rfl) ?_
  refine va_get (D := D) (ci := 3) (v := .int (nI L.2.2.2)) (C := RX2) (T := TX2) (N := 12) hx hb hts hinX2 hown hK hP 0 rfl rfl 11 (by decide) (hts (.fieldLink RX2 43 "PuzzleBookModel" "written" "I") (by decide +kernel)) (fun _ h9 => h9) rfl dX2_write_5 ?_
  refine lv_iload_n hx hb dX2_write_8 rfl (lv_at hl 1 rfl) ?_
  refine st_i (f := L.2.1) (k := L.2.2.2) (x := pl) hx hb hK hP hD hS 4 1 rfl rfl (by omega) (by decide) dX2_write_9 (fun H locs hP hD hS => ?_)
  have hP : va_P D vwCl (mW m0 m1 m2 m3 m4 m5 cB cI n (L.1, va_up L.2.1 L.2.2.2 pl, L.2.2.1, L.2.2.2) fd fc op tn eb ec th) H := hP
  have hD : va_D A (mW m0 m1 m2 m3 m4 m5 cB cI n (L.1, va_up L.2.1 L.2.2.2 pl, L.2.2.1, L.2.2.2) fd fc op tn eb ec th) := hD
  refine lv_aload_n hx hb dX2_write_10 rfl (lv_at hl 0 rfl) ?_
  refine va_get (D := D) (ci := 3) (v := .ref m5) (C := RX2) (T := TX2) (N := 12) hx hb hts hinX2 hown hK hP 0 rfl rfl 10 (by decide) (hts (.fieldLink RX2 22 "PuzzleBookModel" "before" "[I") (by decide +kernel)) (fun _ h9 => h9) rfl dX2_write_11 ?_
  refine lv_aload_n hx hb dX2_write_14 rfl (lv_at hl 0 rfl) ?_
  refine va_get (D := D) (ci := 3) (v := .int (nI L.2.2.2)) (C := RX2) (T := TX2) (N := 12) hx hb hts hinX2 hown hK hP 0 rfl rfl 11 (by decide) (hts (.fieldLink RX2 43 "PuzzleBookModel" "written" "I") (by decide +kernel)) (fun _ h9 => h9) rfl dX2_write_15 ?_
  refine lv_aload_n hx hb dX2_write_18 rfl (lv_at hl 0 rfl) ?_
  refine va_get (D := D) (ci := 3) (v := .ref m1) (C := RX2) (T := TX2) (N := 12) hx hb hts hinX2 hown hK hP 0 rfl rfl 1 (by decide) (hts (.fieldLink RX2 7 "PuzzleBookModel" "store" "[I") (by decide +kernel)) (fun _ h9 => h9) rfl dX2_write_19 ?_
  refine lv_iload_n hx hb dX2_write_22 rfl (lv_at hl 1 rfl) ?_
  refine ld_i (f := L.1) (k := pl) hx hb hK hP 1 1 rfl rfl (by omega) (by decide) dX2_write_23 ?_
  refine st_i (f := L.2.2.1) (k := L.2.2.2) (x := L.1 pl) hx hb hK hP hD hS 5 1 rfl rfl (by omega) (by decide) dX2_write_24 (fun H locs hP hD hS => ?_)
  have hP : va_P D vwCl (mW m0 m1 m2 m3 m4 m5 cB cI n (L.1, va_up L.2.1 L.2.2.2 pl, va_up L.2.2.1 L.2.2.2 (L.1 pl), L.2.2.2) fd fc op tn eb ec th) H := hP
  have hD : va_D A (mW m0 m1 m2 m3 m4 m5 cB cI n (L.1, va_up L.2.1 L.2.2.2 pl, va_up L.2.2.1 L.2.2.2 (L.1 pl), L.2.2.2) fd fc op tn eb ec th) := hD
  refine lv_aload_n hx hb dX2_write_25 rfl (lv_at hl 0 rfl) ?_
  refine va_get (D := D) (ci := 3) (v := .ref m1) (C := RX2) (T := TX2) (N := 12) hx hb hts hinX2 hown hK hP 0 rfl rfl 1 (by decide) (hts (.fieldLink RX2 7 "PuzzleBookModel" "store" "[I") (by decide +kernel)) (fun _ h9 => h9) rfl dX2_write_26 ?_
  refine lv_iload_n hx hb dX2_write_29 rfl (lv_at hl 1 rfl) ?_
  refine lv_iload_n hx hb dX2_write_30 rfl (lv_at hl 2 rfl) ?_
  refine st_i (f := L.1) (k := pl) (x := x) hx hb hK hP hD hS 1 1 rfl rfl (by omega) (by decide) dX2_write_31 (fun H locs hP hD hS => ?_)
  have hP : va_P D vwCl (mW m0 m1 m2 m3 m4 m5 cB cI n (va_up L.1 pl x, va_up L.2.1 L.2.2.2 pl, va_up L.2.2.1 L.2.2.2 (L.1 pl), L.2.2.2) fd fc op tn eb ec th) H := hP
  have hD : va_D A (mW m0 m1 m2 m3 m4 m5 cB cI n (va_up L.1 pl x, va_up L.2.1 L.2.2.2 pl, va_up L.2.2.1 L.2.2.2 (L.1 pl), L.2.2.2) fd fc op tn eb ec th) := hD
  refine lv_aload_n hx hb dX2_write_32 rfl (lv_at hl 0 rfl) ?_
  refine lv_dup hx hb dX2_write_33 rfl ?_
  refine va_get (D := D) (ci := 3) (v := .int (nI L.2.2.2)) (C := RX2) (T := TX2) (N := 12) hx hb hts hinX2 hown hK hP 0 rfl rfl 11 (by decide) (hts (.fieldLink RX2 43 "PuzzleBookModel" "written" "I") (by decide +kernel)) (fun _ h9 => h9) rfl dX2_write_34 ?_
  refine lv_iconst (v := nI 1) hx hb dX2_write_37 (by decide +kernel) ?_
  refine lv_iadd hx hb dX2_write_38 ?_
  refine lv_as (y := nI (L.2.2.2 + 1)) (nI_add _ _) ?_
  refine va_put (D := D) (ci := 3) (v := .int (nI (L.2.2.2 + 1))) (ty := .int) (C := RX2) (T := TX2) (N := 12) hx hb hts hinX2 tyX2 tyX2_ok nmX2 hown hK hP hD hS 0 rfl rfl 11 (by decide) (hts (.fieldLink RX2 43 "PuzzleBookModel" "written" "I") (by decide +kernel)) (fun _ h9 => h9) rfl (by decide +kernel) rfl rfl (Nat.le_of_ble_eq_true rfl) dX2_write_39 (fun H locs hP hD hS => ?_)
  have hP : va_P D vwCl (mW m0 m1 m2 m3 m4 m5 cB cI n (va_up L.1 pl x, va_up L.2.1 L.2.2.2 pl, va_up L.2.2.1 L.2.2.2 (L.1 pl), L.2.2.2 + 1) fd fc op tn eb ec th) H := hP
  have hD : va_D A (mW m0 m1 m2 m3 m4 m5 cB cI n (va_up L.1 pl x, va_up L.2.1 L.2.2.2 pl, va_up L.2.2.1 L.2.2.2 (L.1 pl), L.2.2.2 + 1) fd fc op tn eb ec th) := hD
  exact rt_v hx hb hr hlocks hP hD hS dX2_write_42
set_option maxRecDepth 100000 in
set_option maxHeartbeats 4000000 in
/-- writeSum(b) -/
theorem c_X2_writeSum (l : Launch) (D : va_G) (m0 m1 m2 m3 m4 m5 : Nat) (cB cI : ClassId) (n : Nat) (L : Lg) (fd : Nat → Nat) (fc : Nat) (op : Nat) (tn : Nat) (eb : Nat → Nat) (ec : Nat) (th : Nat) (bk : Nat) (sz : Nat) (h1 : bk < 64) (hw : L.2.2.2 + 4 ≤ 129) : Met l yX2_writeSum wsX2_writeSum ({ frames := 1, cells := 0, slots := 0, locals := 23 }) (wP [.ref m0, .int (nI bk)] D (mW m0 m1 m2 m3 m4 m5 cB cI n L fd fc op tn eb ec th) (ty2 cB cI) sz) (wQv D (mW m0 m1 m2 m3 m4 m5 cB cI n (wS L (64 * bk)) fd fc op tn eb ec th) (va_A (mW m0 m1 m2 m3 m4 m5 cB cI n L fd fc op tn eb ec th) sz)) 0 0 (va_A (mW m0 m1 m2 m3 m4 m5 cB cI n L fd fc op tn eb ec th) sz) := by
  refine met_w (by decide) rfl (Nat.le_of_ble_eq_true rfl) ?_
  intro p e s m below meth c hx hb hml hr hlocks hown hts hP hK A hD hA hS ls hl
  have hown : s.vm.findClass RX2 = some m.cls := hown
  have hinX2 : ∀ w ∈ u_ws RX2 TX2 12, w ∈ wsX2_writeSum := by decide +kernel
  have hl : lv_has ls 4 [(0, .ref m0), (1, .int (nI bk))] := hl
  have loop : ∀ (fu k : Nat), k ≤ 4 → 4 - k < fu → ∀ (H : Heap) (locs : List Loc), va_P D vwCl (mW m0 m1 m2 m3 m4 m5 cB cI n (wN L (64 * bk + 60) (sby (smS L.1 (64 * bk) 60)) k) fd fc op tn eb ec th) H → va_D A (mW m0 m1 m2 m3 m4 m5 cB cI n (wN L (64 * bk + 60) (sby (smS L.1 (64 * bk) 60)) k) fd fc op tn eb ec th) → va_S A s.heap H locs → ∀ ls : Array Slot, lv_has ls 4 [(3, .int (nI k)), (2, .int (smS L.1 (64 * bk) 60)), (0, .ref m0), (1, .int (nI bk))] → W p l e ({ frames := 1, cells := 0, slots := 0, locals := 23 }) s m [.ref m0, .int (nI bk)].toArray below meth c H locs 0 0 (MQ below (wQv D (mW m0 m1 m2 m3 m4 m5 cB cI n (wS L (64 * bk)) fd fc op tn eb ec th) A) [.ref m0, .int (nI bk)].toArray s 0 0 A) (F0 m 8 ls []) := by
    intro fu
    induction fu with
    | zero => intro k hk hf; omega
    | succ fu ih =>
      intro k hk hf H locs hP hD hS ls hl
      refine lv_iload_n hx hb dX2_writeSum_8 rfl (lv_at hl 0 rfl) ?_
      refine lv_iconst (v := nI 4) hx hb dX2_writeSum_9 (by decide +kernel) ?_
      refine jb_ge (tgt := 42) hx hb (nI_toInt (n := k) (by omega)) (nI_toInt (n := 4) (by decide)) dX2_writeSum_10 (by decide) (fun c1 => ?_) (fun c1 => ?_)
      · skip
        have hk9 : 4 = k := by omega
        subst hk9
        exact rt_v hx hb hr hlocks hP hD hS dX2_writeSum_42
      · skip
        refine lv_aload_n hx hb dX2_writeSum_13 rfl (lv_at hl 2 rfl) ?_
        refine lv_bipush (v := nI 64) hx hb dX2_writeSum_14 (by decide +kernel) ?_
        refine lv_iload_n hx hb dX2_writeSum_16 rfl (lv_at hl 3 rfl) ?_
        refine lv_imul hx hb dX2_writeSum_17 ?_
        refine lv_as (y := nI (64 * bk)) (pk_mul _ _) ?_
        refine lv_bipush (v := nI 60) hx hb dX2_writeSum_18 (by decide +kernel) ?_
        refine lv_iadd hx hb dX2_writeSum_20 ?_
        refine lv_as (y := nI ((64 * bk) + 60)) (nI_add _ _) ?_
        refine lv_iload_n hx hb dX2_writeSum_21 rfl (lv_at hl 0 rfl) ?_
        refine lv_iadd hx hb dX2_writeSum_22 ?_
        refine lv_as (y := nI (((64 * bk) + 60) + k)) (nI_add _ _) ?_
        refine lv_iload_n hx hb dX2_writeSum_23 rfl (lv_at hl 1 rfl) ?_
        refine lv_bipush (v := nI 8) hx hb dX2_writeSum_24 (by decide +kernel) ?_
        refine lv_iload_n hx hb dX2_writeSum_26 rfl (lv_at hl 0 rfl) ?_
        refine lv_imul hx hb dX2_writeSum_27 ?_
        refine lv_as (y := nI (8 * k)) (pk_mul _ _) ?_
        refine lv_iushr (v := ((smS L.1 (64 * bk) 60).toUInt32 >>> ((nI (8 * k)).toUInt32 &&& Int32.toUInt32 31)).toInt32) hx hb dX2_writeSum_28 rfl ?_
        refine lv_sipush (v := nI 255) hx hb dX2_writeSum_29 (by decide +kernel) ?_
        refine lv_iand hx hb dX2_writeSum_32 ?_
        refine lv_as (y := nI ((sby (smS L.1 (64 * bk) 60)) k)) (sby_and _ k (by omega)) ?_
        refine wr_V (wr := []) (wo := (mW m0 m1 m2 m3 m4 m5 cB cI n (w1 (wN L (64 * bk + 60) (sby (smS L.1 (64 * bk) 60)) k) (((64 * bk) + 60) + k) ((sby (smS L.1 (64 * bk) 60)) k)) fd fc op tn eb ec th)) (As := [.int (nI (((64 * bk) + 60) + k)), .int (nI ((sby (smS L.1 (64 * bk) 60)) k))]) (rest := []) ⟨hx, hb, hml, hown, hts⟩ (c_X2_write l D m0 m1 m2 m3 m4 m5 cB cI n (wN L (64 * bk + 60) (sby (smS L.1 (64 * bk) 60)) k) fd fc op tn eb ec th (((64 * bk) + 60) + k) ((sby (smS L.1 (64 * bk) 60)) k) H.size  (by omega) (by rw [wN_c]; omega)) (cwV 2 hts gX2_writeSum_X2_write rfl rfl rfl (by decide +kernel) ⟨Nat.le_of_ble_eq_true rfl, Nat.le_of_ble_eq_true rfl⟩) hK hP hD hS hA [0, 1, 2, 3, 4, 5] [] rfl rfl rfl rfl (by decide) [0, 1, 2, 3, 4, 5] rfl rfl (ci := 3) rfl rfl (q0 := 0) rfl rfl hl.1 rfl (Nat.le_of_ble_eq_true rfl) dX2_writeSum_33 ⟨Nat.zero_le _, Nat.zero_le _⟩ (fun H locs hP hD hS => ?_)
        refine lv_iinc (v := nI (k + 1)) (lv' := [(3, .int (nI (k + 1))), (2, .int (smS L.1 (64 * bk) 60)), (0, .ref m0), (1, .int (nI bk))]) hx hb dX2_writeSum_36 hl (k := 0) rfl (nI_add _ 1) (by decide) rfl (fun ls hl => ?_)
        refine lv_goto (tgt := 8) hx hb dX2_writeSum_39 (by decide) ?_
        exact ih (k + 1) (by omega) (by omega) H locs hP hD hS ls (lv_sub hl [0, 1, 2, 3] rfl)
  refine lv_aload_n hx hb dX2_writeSum_0 rfl (lv_at hl 0 rfl) ?_
  refine lv_iload_n hx hb dX2_writeSum_1 rfl (lv_at hl 1 rfl) ?_
  refine rd_V (As := [.int (nI bk)]) (rest := []) ⟨hx, hb, hml, hown, hts⟩ (c_X2_sumOf l D m0 m1 m2 m3 m4 m5 cB cI n L fd fc op tn eb ec th bk h1) (cwV 1 hts gX2_writeSum_X2_sumOf rfl rfl rfl (by decide +kernel) ⟨Nat.le_of_ble_eq_true rfl, Nat.le_of_ble_eq_true rfl⟩) hK hP [0, 1, 2, 3, 4, 5] rfl (ci := 3) rfl rfl (q0 := 0) rfl rfl hl.1 rfl (Nat.le_of_ble_eq_true rfl) dX2_writeSum_2 ⟨Nat.zero_le _, Nat.zero_le _⟩ (fun r2 hr2 => ?_)
  subst hr2
  refine lv_istore_n (lv' := [(2, .int (smS L.1 (64 * bk) 60)), (0, .ref m0), (1, .int (nI bk))]) hx hb dX2_writeSum_5 rfl hl (by decide) rfl (fun ls hl => ?_)
  refine lv_iconst (v := nI 0) hx hb dX2_writeSum_6 (by decide +kernel) ?_
  refine lv_istore_n (lv' := [(3, .int (nI 0)), (2, .int (smS L.1 (64 * bk) 60)), (0, .ref m0), (1, .int (nI bk))]) hx hb dX2_writeSum_7 rfl hl (by decide) rfl (fun ls hl => ?_)
  exact loop 5 0 (by omega) (by omega) s.heap [] hP hD hS ls (lv_sub hl [0, 1, 2, 3] rfl)
set_option maxRecDepth 100000 in
set_option maxHeartbeats 4000000 in
/-- writeRoot(b, -1) -/
theorem c_X2_writeRoot (l : Launch) (D : va_G) (m0 m1 m2 m3 m4 m5 : Nat) (cB cI : ClassId) (n : Nat) (L : Lg) (fd : Nat → Nat) (fc : Nat) (op : Nat) (tn : Nat) (eb : Nat → Nat) (ec : Nat) (th : Nat) (bk : Nat) (sz : Nat) (he : ec ≤ 40) (h1 : bk < 64) (hw : L.2.2.2 + 64 ≤ 129) : Met l yX2_writeRoot wsX2_writeRoot ({ frames := 2, cells := 0, slots := 0, locals := 46 }) (wP [.ref m0, .int (nI bk), .int (-1)] D (mW m0 m1 m2 m3 m4 m5 cB cI n L fd fc op tn eb ec th) (ty2 cB cI) sz) (wQv D (mW m0 m1 m2 m3 m4 m5 cB cI n (wR L bk ec (bO eb ec)) fd fc op tn eb ec th) (va_A (mW m0 m1 m2 m3 m4 m5 cB cI n L fd fc op tn eb ec th) sz)) 0 0 (va_A (mW m0 m1 m2 m3 m4 m5 cB cI n L fd fc op tn eb ec th) sz) := by
  refine met_w (by decide) rfl (Nat.le_of_ble_eq_true rfl) ?_
  intro p e s m below meth c hx hb hml hr hlocks hown hts hP hK A hD hA hS ls hl
  have hown : s.vm.findClass RX2 = some m.cls := hown
  have hinX2 : ∀ w ∈ u_ws RX2 TX2 12, w ∈ wsX2_writeRoot := by decide +kernel
  have hl : lv_has ls 6 [(0, .ref m0), (1, .int (nI bk)), (2, .int (-1))] := hl
  have loop : ∀ (fu k : Nat), k ≤ 59 → 59 - k < fu → ∀ (H : Heap) (locs : List Loc), va_P D vwCl (mW m0 m1 m2 m3 m4 m5 cB cI n (wN (w1 L (64 * bk + 0) ec) (64 * bk + 1) (bO eb ec) k) fd fc op tn eb ec th) H → va_D A (mW m0 m1 m2 m3 m4 m5 cB cI n (wN (w1 L (64 * bk + 0) ec) (64 * bk + 1) (bO eb ec) k) fd fc op tn eb ec th) → va_S A s.heap H locs → ∀ ls : Array Slot, lv_has ls 6 [(5, .int (nI (1 + k))), (4, .int (nI k)), (3, .int (nI ec)), (0, .ref m0), (1, .int (nI bk)), (2, .int (-1))] → W p l e ({ frames := 2, cells := 0, slots := 0, locals := 46 }) s m [.ref m0, .int (nI bk), .int (-1)].toArray below meth c H locs 0 0 (MQ below (wQv D (mW m0 m1 m2 m3 m4 m5 cB cI n (wR L bk ec (bO eb ec)) fd fc op tn eb ec th) A) [.ref m0, .int (nI bk), .int (-1)].toArray s 0 0 A) (F0 m 33 ls []) := by
    intro fu
    induction fu with
    | zero => intro k hk hf; omega
    | succ fu ih =>
      intro k hk hfu H locs hP hD hS ls hl
      refine lv_iload hx hb dX2_writeRoot_33 (lv_at hl 0 rfl) ?_
      refine lv_bipush (v := nI 60) hx hb dX2_writeRoot_35 (by decide +kernel) ?_
      refine jb_ge (tgt := 86) hx hb (nI_toInt (n := 1 + k) (by omega)) (nI_toInt (n := 60) (by decide)) dX2_writeRoot_37 (by decide) (fun c1 => ?_) (fun c1 => ?_)
      · skip
        have hk9 : 59 = k := by omega
        subst hk9
        refine lv_aload_n hx hb dX2_writeRoot_86 rfl (lv_at hl 3 rfl) ?_
        refine lv_iload_n hx hb dX2_writeRoot_87 rfl (lv_at hl 4 rfl) ?_
        refine wr_V (wr := []) (wo := (mW m0 m1 m2 m3 m4 m5 cB cI n (wS (wN (w1 L (64 * bk + 0) ec) (64 * bk + 1) (bO eb ec) 59) (64 * bk)) fd fc op tn eb ec th)) (As := [.int (nI bk)]) (rest := []) ⟨hx, hb, hml, hown, hts⟩ (c_X2_writeSum l D m0 m1 m2 m3 m4 m5 cB cI n (wN (w1 L (64 * bk + 0) ec) (64 * bk + 1) (bO eb ec) 59) fd fc op tn eb ec th bk H.size  h1 (by simp only [wN_c, w1_c]; omega)) (cwV 1 hts gX2_writeRoot_X2_writeSum rfl rfl rfl (by decide +kernel) ⟨Nat.le_of_ble_eq_true rfl, Nat.le_of_ble_eq_true rfl⟩) hK hP hD hS hA [0, 1, 2, 3, 4, 5] [] rfl rfl rfl rfl (by decide) [0, 1, 2, 3, 4, 5] rfl rfl (ci := 3) rfl rfl (q0 := 0) rfl rfl hl.1 rfl (Nat.le_of_ble_eq_true rfl) dX2_writeRoot_88 ⟨Nat.zero_le _, Nat.zero_le _⟩ (fun H locs hP hD hS => ?_)
        exact rt_v hx hb hr hlocks hP hD hS dX2_writeRoot_91
      · skip
        refine lv_iload hx hb dX2_writeRoot_40 (lv_at hl 1 rfl) ?_
        refine lv_iload_n hx hb dX2_writeRoot_42 rfl (lv_at hl 5 rfl) ?_
        refine jb_ne (tgt := 49) hx hb (nI_toInt (n := k) (by omega)) neg1_toInt dX2_writeRoot_43 (by decide) (fun c2 => ?_) (fun c2 => absurd c2 (by omega))
        refine lv_aload_n hx hb dX2_writeRoot_49 rfl (lv_at hl 3 rfl) ?_
        refine lv_bipush (v := nI 64) hx hb dX2_writeRoot_50 (by decide +kernel) ?_
        refine lv_iload_n hx hb dX2_writeRoot_52 rfl (lv_at hl 4 rfl) ?_
        refine lv_imul hx hb dX2_writeRoot_53 ?_
        refine lv_as (y := nI (64 * bk)) (pk_mul _ _) ?_
        refine lv_iload hx hb dX2_writeRoot_54 (lv_at hl 0 rfl) ?_
        refine lv_iadd hx hb dX2_writeRoot_56 ?_
        refine lv_as (y := nI ((64 * bk) + (1 + k))) (nI_add _ _) ?_
        refine lv_iload hx hb dX2_writeRoot_57 (lv_at hl 0 rfl) ?_
        refine lv_iload_n hx hb dX2_writeRoot_59 rfl (lv_at hl 2 rfl) ?_
        refine jb_gt (tgt := 73) hx hb (nI_toInt (n := 1 + k) (by omega)) (nI_toInt (n := ec) (by omega)) dX2_writeRoot_60 (by decide) (fun c3 => ?_) (fun c3 => ?_)
        · skip
          refine lv_iconst (v := nI 0) hx hb dX2_writeRoot_73 (by decide +kernel) ?_
          refine lv_as (y := nI (bO eb ec k)) (congrArg nI (bO_f (by omega)).symm) ?_
          refine wr_V (wr := []) (wo := (mW m0 m1 m2 m3 m4 m5 cB cI n (w1 (wN (w1 L (64 * bk + 0) ec) (64 * bk + 1) (bO eb ec) k) ((64 * bk) + (1 + k)) (bO eb ec k)) fd fc op tn eb ec th)) (As := [.int (nI ((64 * bk) + (1 + k))), .int (nI (bO eb ec k))]) (rest := []) ⟨hx, hb, hml, hown, hts⟩ (c_X2_write l D m0 m1 m2 m3 m4 m5 cB cI n (wN (w1 L (64 * bk + 0) ec) (64 * bk + 1) (bO eb ec) k) fd fc op tn eb ec th ((64 * bk) + (1 + k)) (bO eb ec k) H.size  (by omega) (by simp only [wN_c, w1_c]; omega)) (cwV 2 hts gX2_writeRoot_X2_write rfl rfl rfl (by decide +kernel) ⟨Nat.le_of_ble_eq_true rfl, Nat.le_of_ble_eq_true rfl⟩) hK hP hD hS hA [0, 1, 2, 3, 4, 5] [] rfl rfl rfl rfl (by decide) [0, 1, 2, 3, 4, 5] rfl rfl (ci := 3) rfl rfl (q0 := 0) rfl rfl hl.1 rfl (Nat.le_of_ble_eq_true rfl) dX2_writeRoot_74 ⟨Nat.zero_le _, Nat.zero_le _⟩ (fun H locs hP hD hS => ?_)
          have e9 : w1 (wN (w1 L (64 * bk + 0) ec) (64 * bk + 1) (bO eb ec) k) ((64 * bk) + (1 + k)) (bO eb ec k) = wN (w1 L (64 * bk + 0) ec) (64 * bk + 1) (bO eb ec) (k + 1) := by show w1 _ _ _ = w1 _ _ _; rw [show 64 * bk + (1 + k) = 64 * bk + 1 + k by omega]
          rw [e9] at hP hD
          refine lv_iinc (v := nI (k + 1)) (lv' := [(4, .int (nI (k + 1))), (5, .int (nI (1 + k))), (3, .int (nI ec)), (0, .ref m0), (1, .int (nI bk)), (2, .int (-1))]) hx hb dX2_writeRoot_77 hl (k := 1) rfl (nI_add _ 1) (by decide) rfl (fun ls hl => ?_)
          refine lv_iinc (v := nI (1 + k + 1)) (lv' := [(5, .int (nI (1 + k + 1))), (4, .int (nI (k + 1))), (3, .int (nI ec)), (0, .ref m0), (1, .int (nI bk)), (2, .int (-1))]) hx hb dX2_writeRoot_80 hl (k := 1) rfl (nI_add _ 1) (by decide) rfl (fun ls hl => ?_)
          refine lv_goto (tgt := 33) hx hb dX2_writeRoot_83 (by decide) ?_
          exact ih (k + 1) (by omega) (by omega) H locs hP hD hS ls (lv_sub hl [0, 1, 2, 3, 4, 5] rfl)
        · skip
          refine lv_aload_n hx hb dX2_writeRoot_63 rfl (lv_at hl 3 rfl) ?_
          refine va_get (D := D) (ci := 3) (v := .ref m2) (C := RX2) (T := TX2) (N := 12) hx hb hts hinX2 hown hK hP 0 rfl rfl 6 (by decide) (hts (.fieldLink RX2 13 "PuzzleBookModel" "block" "[I") (by decide +kernel)) (fun _ h9 => h9) rfl dX2_writeRoot_64 ?_
          refine lv_iload hx hb dX2_writeRoot_67 (lv_at hl 1 rfl) ?_
          refine ld_i (f := eb) (k := k) hx hb hK hP 2 1 rfl rfl (by omega) (by decide) dX2_writeRoot_69 ?_
          refine lv_as (y := nI (bO eb ec k)) (congrArg nI (bO_t (by omega)).symm) ?_
          refine lv_goto (tgt := 74) hx hb dX2_writeRoot_70 (by decide) ?_
          refine wr_V (wr := []) (wo := (mW m0 m1 m2 m3 m4 m5 cB cI n (w1 (wN (w1 L (64 * bk + 0) ec) (64 * bk + 1) (bO eb ec) k) ((64 * bk) + (1 + k)) (bO eb ec k)) fd fc op tn eb ec th)) (As := [.int (nI ((64 * bk) + (1 + k))), .int (nI (bO eb ec k))]) (rest := []) ⟨hx, hb, hml, hown, hts⟩ (c_X2_write l D m0 m1 m2 m3 m4 m5 cB cI n (wN (w1 L (64 * bk + 0) ec) (64 * bk + 1) (bO eb ec) k) fd fc op tn eb ec th ((64 * bk) + (1 + k)) (bO eb ec k) H.size  (by omega) (by simp only [wN_c, w1_c]; omega)) (cwV 2 hts gX2_writeRoot_X2_write rfl rfl rfl (by decide +kernel) ⟨Nat.le_of_ble_eq_true rfl, Nat.le_of_ble_eq_true rfl⟩) hK hP hD hS hA [0, 1, 2, 3, 4, 5] [] rfl rfl rfl rfl (by decide) [0, 1, 2, 3, 4, 5] rfl rfl (ci := 3) rfl rfl (q0 := 0) rfl rfl hl.1 rfl (Nat.le_of_ble_eq_true rfl) dX2_writeRoot_74 ⟨Nat.zero_le _, Nat.zero_le _⟩ (fun H locs hP hD hS => ?_)
          have e9 : w1 (wN (w1 L (64 * bk + 0) ec) (64 * bk + 1) (bO eb ec) k) ((64 * bk) + (1 + k)) (bO eb ec k) = wN (w1 L (64 * bk + 0) ec) (64 * bk + 1) (bO eb ec) (k + 1) := by show w1 _ _ _ = w1 _ _ _; rw [show 64 * bk + (1 + k) = 64 * bk + 1 + k by omega]
          rw [e9] at hP hD
          refine lv_iinc (v := nI (k + 1)) (lv' := [(4, .int (nI (k + 1))), (5, .int (nI (1 + k))), (3, .int (nI ec)), (0, .ref m0), (1, .int (nI bk)), (2, .int (-1))]) hx hb dX2_writeRoot_77 hl (k := 1) rfl (nI_add _ 1) (by decide) rfl (fun ls hl => ?_)
          refine lv_iinc (v := nI (1 + k + 1)) (lv' := [(5, .int (nI (1 + k + 1))), (4, .int (nI (k + 1))), (3, .int (nI ec)), (0, .ref m0), (1, .int (nI bk)), (2, .int (-1))]) hx hb dX2_writeRoot_80 hl (k := 1) rfl (nI_add _ 1) (by decide) rfl (fun ls hl => ?_)
          refine lv_goto (tgt := 33) hx hb dX2_writeRoot_83 (by decide) ?_
          exact ih (k + 1) (by omega) (by omega) H locs hP hD hS ls (lv_sub hl [0, 1, 2, 3, 4, 5] rfl)
  refine lv_iload_n hx hb dX2_writeRoot_0 rfl (lv_at hl 2 rfl) ?_
  refine j0_ge (tgt := 11) hx hb neg1_toInt dX2_writeRoot_1 (by decide) (fun c4 => absurd c4 (by omega)) (fun c4 => ?_)
  refine lv_aload_n hx hb dX2_writeRoot_4 rfl (lv_at hl 0 rfl) ?_
  refine va_get (D := D) (ci := 3) (v := .int (nI ec)) (C := RX2) (T := TX2) (N := 12) hx hb hts hinX2 hown hK hP 0 rfl rfl 4 (by decide) (hts (.fieldLink RX2 54 "PuzzleBookModel" "entries" "I") (by decide +kernel)) (fun _ h9 => h9) rfl dX2_writeRoot_5 ?_
  refine lv_goto (tgt := 17) hx hb dX2_writeRoot_8 (by decide) ?_
  refine lv_istore_n (lv' := [(3, .int (nI ec)), (0, .ref m0), (1, .int (nI bk)), (2, .int (-1))]) hx hb dX2_writeRoot_17 rfl hl (by decide) rfl (fun ls hl => ?_)
  refine lv_aload_n hx hb dX2_writeRoot_18 rfl (lv_at hl 1 rfl) ?_
  refine lv_bipush (v := nI 64) hx hb dX2_writeRoot_19 (by decide +kernel) ?_
  refine lv_iload_n hx hb dX2_writeRoot_21 rfl (lv_at hl 2 rfl) ?_
  refine lv_imul hx hb dX2_writeRoot_22 ?_
  refine lv_as (y := nI (64 * bk)) (pk_mul _ _) ?_
  refine lv_as (y := nI (64 * bk + 0)) rfl ?_
  refine lv_iload_n hx hb dX2_writeRoot_23 rfl (lv_at hl 0 rfl) ?_
  refine wr_V (wr := []) (wo := (mW m0 m1 m2 m3 m4 m5 cB cI n (w1 L (64 * bk + 0) ec) fd fc op tn eb ec th)) (As := [.int (nI (64 * bk + 0)), .int (nI ec)]) (rest := []) ⟨hx, hb, hml, hown, hts⟩ (c_X2_write l D m0 m1 m2 m3 m4 m5 cB cI n L fd fc op tn eb ec th (64 * bk + 0) ec s.heap.size  (by omega) (by omega)) (cwV 2 hts gX2_writeRoot_X2_write rfl rfl rfl (by decide +kernel) ⟨Nat.le_of_ble_eq_true rfl, Nat.le_of_ble_eq_true rfl⟩) hK hP hD hS hA [0, 1, 2, 3, 4, 5] [] rfl rfl rfl rfl (by decide) [0, 1, 2, 3, 4, 5] rfl rfl (ci := 3) rfl rfl (q0 := 0) rfl rfl hl.1 rfl (Nat.le_of_ble_eq_true rfl) dX2_writeRoot_24 ⟨Nat.zero_le _, Nat.zero_le _⟩ (fun H locs hP hD hS => ?_)
  refine lv_iconst (v := nI 0) hx hb dX2_writeRoot_27 (by decide +kernel) ?_
  refine lv_istore (lv' := [(4, .int (nI 0)), (3, .int (nI ec)), (0, .ref m0), (1, .int (nI bk)), (2, .int (-1))]) hx hb dX2_writeRoot_28 hl (by decide) rfl (fun ls hl => ?_)
  refine lv_iconst (v := nI 1) hx hb dX2_writeRoot_30 (by decide +kernel) ?_
  refine lv_istore (lv' := [(5, .int (nI 1)), (4, .int (nI 0)), (3, .int (nI ec)), (0, .ref m0), (1, .int (nI bk)), (2, .int (-1))]) hx hb dX2_writeRoot_31 hl (by decide) rfl (fun ls hl => ?_)
  exact loop 60 0 (by omega) (by omega) H locs hP hD hS ls (lv_sub hl [0, 1, 2, 3, 4, 5] rfl)
set_option maxRecDepth 100000 in
set_option maxHeartbeats 4000000 in
/-- writeRoot(b, entry) -/
theorem c_X2_writeRoot_d (l : Launch) (D : va_G) (m0 m1 m2 m3 m4 m5 : Nat) (cB cI : ClassId) (n : Nat) (L : Lg) (fd : Nat → Nat) (fc : Nat) (op : Nat) (tn : Nat) (eb : Nat → Nat) (ec : Nat) (th : Nat) (bk z : Nat) (sz : Nat) (he : ec ≤ 40) (h1 : bk < 64) (h2 : z < ec) (hw : L.2.2.2 + 64 ≤ 129) : Met l yX2_writeRoot wsX2_writeRoot ({ frames := 2, cells := 0, slots := 0, locals := 46 }) (wP [.ref m0, .int (nI bk), .int (nI z)] D (mW m0 m1 m2 m3 m4 m5 cB cI n L fd fc op tn eb ec th) (ty2 cB cI) sz) (wQv D (mW m0 m1 m2 m3 m4 m5 cB cI n (wR L bk (ec - 1) (bO (shf eb z (ec - 1 - z)) (ec - 1))) fd fc op tn eb ec th) (va_A (mW m0 m1 m2 m3 m4 m5 cB cI n L fd fc op tn eb ec th) sz)) 0 0 (va_A (mW m0 m1 m2 m3 m4 m5 cB cI n L fd fc op tn eb ec th) sz) := by
  refine met_w (by decide) rfl (Nat.le_of_ble_eq_true rfl) ?_
  intro p e s m below meth c hx hb hml hr hlocks hown hts hP hK A hD hA hS ls hl
  have hown : s.vm.findClass RX2 = some m.cls := hown
  have hinX2 : ∀ w ∈ u_ws RX2 TX2 12, w ∈ wsX2_writeRoot := by decide +kernel
  have hl : lv_has ls 6 [(0, .ref m0), (1, .int (nI bk)), (2, .int (nI z))] := hl
  have loop : ∀ (fu k x : Nat), k ≤ 59 → 59 - k < fu → ((k ≤ z ∧ x = k) ∨ (z < k ∧ x = k + 1)) → ∀ (H : Heap) (locs : List Loc), va_P D vwCl (mW m0 m1 m2 m3 m4 m5 cB cI n (wN (w1 L (64 * bk + 0) (ec - 1)) (64 * bk + 1) (bO (shf eb z (ec - 1 - z)) (ec - 1)) k) fd fc op tn eb ec th) H → va_D A (mW m0 m1 m2 m3 m4 m5 cB cI n (wN (w1 L (64 * bk + 0) (ec - 1)) (64 * bk + 1) (bO (shf eb z (ec - 1 - z)) (ec - 1)) k) fd fc op tn eb ec th) → va_S A s.heap H locs → ∀ ls : Array Slot, lv_has ls 6 [(5, .int (nI (1 + k))), (4, .int (nI x)), (3, .int (nI (ec - 1))), (0, .ref m0), (1, .int (nI bk)), (2, .int (nI z))] → W p l e ({ frames := 2, cells := 0, slots := 0, locals := 46 }) s m [.ref m0, .int (nI bk), .int (nI z)].toArray below meth c H locs 0 0 (MQ below (wQv D (mW m0 m1 m2 m3 m4 m5 cB cI n (wR L bk (ec - 1) (bO (shf eb z (ec - 1 - z)) (ec - 1))) fd fc op tn eb ec th) A) [.ref m0, .int (nI bk), .int (nI z)].toArray s 0 0 A) (F0 m 33 ls []) := by
    intro fu
    induction fu with
    | zero => intro k x hk hf; omega
    | succ fu ih =>
      intro k x hk hfu hq H locs hP hD hS ls hl
      refine lv_iload hx hb dX2_writeRoot_33 (lv_at hl 0 rfl) ?_
      refine lv_bipush (v := nI 60) hx hb dX2_writeRoot_35 (by decide +kernel) ?_
      refine jb_ge (tgt := 86) hx hb (nI_toInt (n := 1 + k) (by omega)) (nI_toInt (n := 60) (by decide)) dX2_writeRoot_37 (by decide) (fun c1 => ?_) (fun c1 => ?_)
      · skip
        have hk9 : 59 = k := by omega
        subst hk9
        refine lv_aload_n hx hb dX2_writeRoot_86 rfl (lv_at hl 3 rfl) ?_
        refine lv_iload_n hx hb dX2_writeRoot_87 rfl (lv_at hl 4 rfl) ?_
        refine wr_V (wr := []) (wo := (mW m0 m1 m2 m3 m4 m5 cB cI n (wS (wN (w1 L (64 * bk + 0) (ec - 1)) (64 * bk + 1) (bO (shf eb z (ec - 1 - z)) (ec - 1)) 59) (64 * bk)) fd fc op tn eb ec th)) (As := [.int (nI bk)]) (rest := []) ⟨hx, hb, hml, hown, hts⟩ (c_X2_writeSum l D m0 m1 m2 m3 m4 m5 cB cI n (wN (w1 L (64 * bk + 0) (ec - 1)) (64 * bk + 1) (bO (shf eb z (ec - 1 - z)) (ec - 1)) 59) fd fc op tn eb ec th bk H.size  h1 (by simp only [wN_c, w1_c]; omega)) (cwV 1 hts gX2_writeRoot_X2_writeSum rfl rfl rfl (by decide +kernel) ⟨Nat.le_of_ble_eq_true rfl, Nat.le_of_ble_eq_true rfl⟩) hK hP hD hS hA [0, 1, 2, 3, 4, 5] [] rfl rfl rfl rfl (by decide) [0, 1, 2, 3, 4, 5] rfl rfl (ci := 3) rfl rfl (q0 := 0) rfl rfl hl.1 rfl (Nat.le_of_ble_eq_true rfl) dX2_writeRoot_88 ⟨Nat.zero_le _, Nat.zero_le _⟩ (fun H locs hP hD hS => ?_)
        exact rt_v hx hb hr hlocks hP hD hS dX2_writeRoot_91
      · skip
        refine lv_iload hx hb dX2_writeRoot_40 (lv_at hl 1 rfl) ?_
        refine lv_iload_n hx hb dX2_writeRoot_42 rfl (lv_at hl 5 rfl) ?_
        refine jb_ne (tgt := 49) hx hb (nI_toInt (n := x) (by omega)) (nI_toInt (n := z) (by omega)) dX2_writeRoot_43 (by decide) (fun c2 => ?_) (fun c2 => ?_)
        · skip
          refine lv_aload_n hx hb dX2_writeRoot_49 rfl (lv_at hl 3 rfl) ?_
          refine lv_bipush (v := nI 64) hx hb dX2_writeRoot_50 (by decide +kernel) ?_
          refine lv_iload_n hx hb dX2_writeRoot_52 rfl (lv_at hl 4 rfl) ?_
          refine lv_imul hx hb dX2_writeRoot_53 ?_
          refine lv_as (y := nI (64 * bk)) (pk_mul _ _) ?_
          refine lv_iload hx hb dX2_writeRoot_54 (lv_at hl 0 rfl) ?_
          refine lv_iadd hx hb dX2_writeRoot_56 ?_
          refine lv_as (y := nI ((64 * bk) + (1 + k))) (nI_add _ _) ?_
          refine lv_iload hx hb dX2_writeRoot_57 (lv_at hl 0 rfl) ?_
          refine lv_iload_n hx hb dX2_writeRoot_59 rfl (lv_at hl 2 rfl) ?_
          refine jb_gt (tgt := 73) hx hb (nI_toInt (n := 1 + k) (by omega)) (nI_toInt (n := ec - 1) (by omega)) dX2_writeRoot_60 (by decide) (fun c3 => ?_) (fun c3 => ?_)
          · skip
            refine lv_iconst (v := nI 0) hx hb dX2_writeRoot_73 (by decide +kernel) ?_
            refine lv_as (y := nI ((bO (shf eb z (ec - 1 - z)) (ec - 1)) k)) (congrArg nI (bO_f (by omega)).symm) ?_
            refine wr_V (wr := []) (wo := (mW m0 m1 m2 m3 m4 m5 cB cI n (w1 (wN (w1 L (64 * bk + 0) (ec - 1)) (64 * bk + 1) (bO (shf eb z (ec - 1 - z)) (ec - 1)) k) ((64 * bk) + (1 + k)) ((bO (shf eb z (ec - 1 - z)) (ec - 1)) k)) fd fc op tn eb ec th)) (As := [.int (nI ((64 * bk) + (1 + k))), .int (nI ((bO (shf eb z (ec - 1 - z)) (ec - 1)) k))]) (rest := []) ⟨hx, hb, hml, hown, hts⟩ (c_X2_write l D m0 m1 m2 m3 m4 m5 cB cI n (wN (w1 L (64 * bk + 0) (ec - 1)) (64 * bk + 1) (bO (shf eb z (ec - 1 - z)) (ec - 1)) k) fd fc op tn eb ec th ((64 * bk) + (1 + k)) ((bO (shf eb z (ec - 1 - z)) (ec - 1)) k) H.size  (by omega) (by simp only [wN_c, w1_c]; omega)) (cwV 2 hts gX2_writeRoot_X2_write rfl rfl rfl (by decide +kernel) ⟨Nat.le_of_ble_eq_true rfl, Nat.le_of_ble_eq_true rfl⟩) hK hP hD hS hA [0, 1, 2, 3, 4, 5] [] rfl rfl rfl rfl (by decide) [0, 1, 2, 3, 4, 5] rfl rfl (ci := 3) rfl rfl (q0 := 0) rfl rfl hl.1 rfl (Nat.le_of_ble_eq_true rfl) dX2_writeRoot_74 ⟨Nat.zero_le _, Nat.zero_le _⟩ (fun H locs hP hD hS => ?_)
            have e9 : w1 (wN (w1 L (64 * bk + 0) (ec - 1)) (64 * bk + 1) (bO (shf eb z (ec - 1 - z)) (ec - 1)) k) ((64 * bk) + (1 + k)) ((bO (shf eb z (ec - 1 - z)) (ec - 1)) k) = wN (w1 L (64 * bk + 0) (ec - 1)) (64 * bk + 1) (bO (shf eb z (ec - 1 - z)) (ec - 1)) (k + 1) := by show w1 _ _ _ = w1 _ _ _; rw [show 64 * bk + (1 + k) = 64 * bk + 1 + k by omega]
            rw [e9] at hP hD
            refine lv_iinc (v := nI (x + 1)) (lv' := [(4, .int (nI (x + 1))), (5, .int (nI (1 + k))), (3, .int (nI (ec - 1))), (0, .ref m0), (1, .int (nI bk)), (2, .int (nI z))]) hx hb dX2_writeRoot_77 hl (k := 1) rfl (nI_add _ 1) (by decide) rfl (fun ls hl => ?_)
            refine lv_iinc (v := nI (1 + k + 1)) (lv' := [(5, .int (nI (1 + k + 1))), (4, .int (nI (x + 1))), (3, .int (nI (ec - 1))), (0, .ref m0), (1, .int (nI bk)), (2, .int (nI z))]) hx hb dX2_writeRoot_80 hl (k := 1) rfl (nI_add _ 1) (by decide) rfl (fun ls hl => ?_)
            refine lv_goto (tgt := 33) hx hb dX2_writeRoot_83 (by decide) ?_
            exact ih (k + 1) (x + 1) (by omega) (by omega) (by omega) H locs hP hD hS ls (lv_sub hl [0, 1, 2, 3, 4, 5] rfl)
          · skip
            refine lv_aload_n hx hb dX2_writeRoot_63 rfl (lv_at hl 3 rfl) ?_
            refine va_get (D := D) (ci := 3) (v := .ref m2) (C := RX2) (T := TX2) (N := 12) hx hb hts hinX2 hown hK hP 0 rfl rfl 6 (by decide) (hts (.fieldLink RX2 13 "PuzzleBookModel" "block" "[I") (by decide +kernel)) (fun _ h9 => h9) rfl dX2_writeRoot_64 ?_
            refine lv_iload hx hb dX2_writeRoot_67 (lv_at hl 1 rfl) ?_
            refine ld_i (f := eb) (k := x) hx hb hK hP 2 1 rfl rfl (by omega) (by decide) dX2_writeRoot_69 ?_
            refine lv_as (y := nI ((bO (shf eb z (ec - 1 - z)) (ec - 1)) k)) (congrArg nI (shf_v (by omega) (by omega) (by omega))) ?_
            refine lv_goto (tgt := 74) hx hb dX2_writeRoot_70 (by decide) ?_
            refine wr_V (wr := []) (wo := (mW m0 m1 m2 m3 m4 m5 cB cI n (w1 (wN (w1 L (64 * bk + 0) (ec - 1)) (64 * bk + 1) (bO (shf eb z (ec - 1 - z)) (ec - 1)) k) ((64 * bk) + (1 + k)) ((bO (shf eb z (ec - 1 - z)) (ec - 1)) k)) fd fc op tn eb ec th)) (As := [.int (nI ((64 * bk) + (1 + k))), .int (nI ((bO (shf eb z (ec - 1 - z)) (ec - 1)) k))]) (rest := []) ⟨hx, hb, hml, hown, hts⟩ (c_X2_write l D m0 m1 m2 m3 m4 m5 cB cI n (wN (w1 L (64 * bk + 0) (ec - 1)) (64 * bk + 1) (bO (shf eb z (ec - 1 - z)) (ec - 1)) k) fd fc op tn eb ec th ((64 * bk) + (1 + k)) ((bO (shf eb z (ec - 1 - z)) (ec - 1)) k) H.size  (by omega) (by simp only [wN_c, w1_c]; omega)) (cwV 2 hts gX2_writeRoot_X2_write rfl rfl rfl (by decide +kernel) ⟨Nat.le_of_ble_eq_true rfl, Nat.le_of_ble_eq_true rfl⟩) hK hP hD hS hA [0, 1, 2, 3, 4, 5] [] rfl rfl rfl rfl (by decide) [0, 1, 2, 3, 4, 5] rfl rfl (ci := 3) rfl rfl (q0 := 0) rfl rfl hl.1 rfl (Nat.le_of_ble_eq_true rfl) dX2_writeRoot_74 ⟨Nat.zero_le _, Nat.zero_le _⟩ (fun H locs hP hD hS => ?_)
            have e9 : w1 (wN (w1 L (64 * bk + 0) (ec - 1)) (64 * bk + 1) (bO (shf eb z (ec - 1 - z)) (ec - 1)) k) ((64 * bk) + (1 + k)) ((bO (shf eb z (ec - 1 - z)) (ec - 1)) k) = wN (w1 L (64 * bk + 0) (ec - 1)) (64 * bk + 1) (bO (shf eb z (ec - 1 - z)) (ec - 1)) (k + 1) := by show w1 _ _ _ = w1 _ _ _; rw [show 64 * bk + (1 + k) = 64 * bk + 1 + k by omega]
            rw [e9] at hP hD
            refine lv_iinc (v := nI (x + 1)) (lv' := [(4, .int (nI (x + 1))), (5, .int (nI (1 + k))), (3, .int (nI (ec - 1))), (0, .ref m0), (1, .int (nI bk)), (2, .int (nI z))]) hx hb dX2_writeRoot_77 hl (k := 1) rfl (nI_add _ 1) (by decide) rfl (fun ls hl => ?_)
            refine lv_iinc (v := nI (1 + k + 1)) (lv' := [(5, .int (nI (1 + k + 1))), (4, .int (nI (x + 1))), (3, .int (nI (ec - 1))), (0, .ref m0), (1, .int (nI bk)), (2, .int (nI z))]) hx hb dX2_writeRoot_80 hl (k := 1) rfl (nI_add _ 1) (by decide) rfl (fun ls hl => ?_)
            refine lv_goto (tgt := 33) hx hb dX2_writeRoot_83 (by decide) ?_
            exact ih (k + 1) (x + 1) (by omega) (by omega) (by omega) H locs hP hD hS ls (lv_sub hl [0, 1, 2, 3, 4, 5] rfl)
        · skip
          refine lv_iinc (v := nI (x + 1)) (lv' := [(4, .int (nI (x + 1))), (5, .int (nI (1 + k))), (3, .int (nI (ec - 1))), (0, .ref m0), (1, .int (nI bk)), (2, .int (nI z))]) hx hb dX2_writeRoot_46 hl (k := 1) rfl (nI_add _ 1) (by decide) rfl (fun ls hl => ?_)
          refine lv_aload_n hx hb dX2_writeRoot_49 rfl (lv_at hl 3 rfl) ?_
          refine lv_bipush (v := nI 64) hx hb dX2_writeRoot_50 (by decide +kernel) ?_
          refine lv_iload_n hx hb dX2_writeRoot_52 rfl (lv_at hl 4 rfl) ?_
          refine lv_imul hx hb dX2_writeRoot_53 ?_
          refine lv_as (y := nI (64 * bk)) (pk_mul _ _) ?_
          refine lv_iload hx hb dX2_writeRoot_54 (lv_at hl 1 rfl) ?_
          refine lv_iadd hx hb dX2_writeRoot_56 ?_
          refine lv_as (y := nI ((64 * bk) + (1 + k))) (nI_add _ _) ?_
          refine lv_iload hx hb dX2_writeRoot_57 (lv_at hl 1 rfl) ?_
          refine lv_iload_n hx hb dX2_writeRoot_59 rfl (lv_at hl 2 rfl) ?_
          refine jb_gt (tgt := 73) hx hb (nI_toInt (n := 1 + k) (by omega)) (nI_toInt (n := ec - 1) (by omega)) dX2_writeRoot_60 (by decide) (fun c4 => ?_) (fun c4 => ?_)
          · skip
            refine lv_iconst (v := nI 0) hx hb dX2_writeRoot_73 (by decide +kernel) ?_
            refine lv_as (y := nI ((bO (shf eb z (ec - 1 - z)) (ec - 1)) k)) (congrArg nI (bO_f (by omega)).symm) ?_
            refine wr_V (wr := []) (wo := (mW m0 m1 m2 m3 m4 m5 cB cI n (w1 (wN (w1 L (64 * bk + 0) (ec - 1)) (64 * bk + 1) (bO (shf eb z (ec - 1 - z)) (ec - 1)) k) ((64 * bk) + (1 + k)) ((bO (shf eb z (ec - 1 - z)) (ec - 1)) k)) fd fc op tn eb ec th)) (As := [.int (nI ((64 * bk) + (1 + k))), .int (nI ((bO (shf eb z (ec - 1 - z)) (ec - 1)) k))]) (rest := []) ⟨hx, hb, hml, hown, hts⟩ (c_X2_write l D m0 m1 m2 m3 m4 m5 cB cI n (wN (w1 L (64 * bk + 0) (ec - 1)) (64 * bk + 1) (bO (shf eb z (ec - 1 - z)) (ec - 1)) k) fd fc op tn eb ec th ((64 * bk) + (1 + k)) ((bO (shf eb z (ec - 1 - z)) (ec - 1)) k) H.size  (by omega) (by simp only [wN_c, w1_c]; omega)) (cwV 2 hts gX2_writeRoot_X2_write rfl rfl rfl (by decide +kernel) ⟨Nat.le_of_ble_eq_true rfl, Nat.le_of_ble_eq_true rfl⟩) hK hP hD hS hA [0, 1, 2, 3, 4, 5] [] rfl rfl rfl rfl (by decide) [0, 1, 2, 3, 4, 5] rfl rfl (ci := 3) rfl rfl (q0 := 0) rfl rfl hl.1 rfl (Nat.le_of_ble_eq_true rfl) dX2_writeRoot_74 ⟨Nat.zero_le _, Nat.zero_le _⟩ (fun H locs hP hD hS => ?_)
            have e9 : w1 (wN (w1 L (64 * bk + 0) (ec - 1)) (64 * bk + 1) (bO (shf eb z (ec - 1 - z)) (ec - 1)) k) ((64 * bk) + (1 + k)) ((bO (shf eb z (ec - 1 - z)) (ec - 1)) k) = wN (w1 L (64 * bk + 0) (ec - 1)) (64 * bk + 1) (bO (shf eb z (ec - 1 - z)) (ec - 1)) (k + 1) := by show w1 _ _ _ = w1 _ _ _; rw [show 64 * bk + (1 + k) = 64 * bk + 1 + k by omega]
            rw [e9] at hP hD
            refine lv_iinc (v := nI (x + 1 + 1)) (lv' := [(4, .int (nI (x + 1 + 1))), (5, .int (nI (1 + k))), (3, .int (nI (ec - 1))), (0, .ref m0), (1, .int (nI bk)), (2, .int (nI z))]) hx hb dX2_writeRoot_77 hl (k := 0) rfl (nI_add _ 1) (by decide) rfl (fun ls hl => ?_)
            refine lv_iinc (v := nI (1 + k + 1)) (lv' := [(5, .int (nI (1 + k + 1))), (4, .int (nI (x + 1 + 1))), (3, .int (nI (ec - 1))), (0, .ref m0), (1, .int (nI bk)), (2, .int (nI z))]) hx hb dX2_writeRoot_80 hl (k := 1) rfl (nI_add _ 1) (by decide) rfl (fun ls hl => ?_)
            refine lv_goto (tgt := 33) hx hb dX2_writeRoot_83 (by decide) ?_
            exact ih (k + 1) ((x + 1) + 1) (by omega) (by omega) (by omega) H locs hP hD hS ls (lv_sub hl [0, 1, 2, 3, 4, 5] rfl)
          · skip
            refine lv_aload_n hx hb dX2_writeRoot_63 rfl (lv_at hl 3 rfl) ?_
            refine va_get (D := D) (ci := 3) (v := .ref m2) (C := RX2) (T := TX2) (N := 12) hx hb hts hinX2 hown hK hP 0 rfl rfl 6 (by decide) (hts (.fieldLink RX2 13 "PuzzleBookModel" "block" "[I") (by decide +kernel)) (fun _ h9 => h9) rfl dX2_writeRoot_64 ?_
            refine lv_iload hx hb dX2_writeRoot_67 (lv_at hl 0 rfl) ?_
            refine ld_i (f := eb) (k := x + 1) hx hb hK hP 2 1 rfl rfl (by omega) (by decide) dX2_writeRoot_69 ?_
            refine lv_as (y := nI ((bO (shf eb z (ec - 1 - z)) (ec - 1)) k)) (congrArg nI (shf_v (by omega) (by omega) (by omega))) ?_
            refine lv_goto (tgt := 74) hx hb dX2_writeRoot_70 (by decide) ?_
            refine wr_V (wr := []) (wo := (mW m0 m1 m2 m3 m4 m5 cB cI n (w1 (wN (w1 L (64 * bk + 0) (ec - 1)) (64 * bk + 1) (bO (shf eb z (ec - 1 - z)) (ec - 1)) k) ((64 * bk) + (1 + k)) ((bO (shf eb z (ec - 1 - z)) (ec - 1)) k)) fd fc op tn eb ec th)) (As := [.int (nI ((64 * bk) + (1 + k))), .int (nI ((bO (shf eb z (ec - 1 - z)) (ec - 1)) k))]) (rest := []) ⟨hx, hb, hml, hown, hts⟩ (c_X2_write l D m0 m1 m2 m3 m4 m5 cB cI n (wN (w1 L (64 * bk + 0) (ec - 1)) (64 * bk + 1) (bO (shf eb z (ec - 1 - z)) (ec - 1)) k) fd fc op tn eb ec th ((64 * bk) + (1 + k)) ((bO (shf eb z (ec - 1 - z)) (ec - 1)) k) H.size  (by omega) (by simp only [wN_c, w1_c]; omega)) (cwV 2 hts gX2_writeRoot_X2_write rfl rfl rfl (by decide +kernel) ⟨Nat.le_of_ble_eq_true rfl, Nat.le_of_ble_eq_true rfl⟩) hK hP hD hS hA [0, 1, 2, 3, 4, 5] [] rfl rfl rfl rfl (by decide) [0, 1, 2, 3, 4, 5] rfl rfl (ci := 3) rfl rfl (q0 := 0) rfl rfl hl.1 rfl (Nat.le_of_ble_eq_true rfl) dX2_writeRoot_74 ⟨Nat.zero_le _, Nat.zero_le _⟩ (fun H locs hP hD hS => ?_)
            have e9 : w1 (wN (w1 L (64 * bk + 0) (ec - 1)) (64 * bk + 1) (bO (shf eb z (ec - 1 - z)) (ec - 1)) k) ((64 * bk) + (1 + k)) ((bO (shf eb z (ec - 1 - z)) (ec - 1)) k) = wN (w1 L (64 * bk + 0) (ec - 1)) (64 * bk + 1) (bO (shf eb z (ec - 1 - z)) (ec - 1)) (k + 1) := by show w1 _ _ _ = w1 _ _ _; rw [show 64 * bk + (1 + k) = 64 * bk + 1 + k by omega]
            rw [e9] at hP hD
            refine lv_iinc (v := nI (x + 1 + 1)) (lv' := [(4, .int (nI (x + 1 + 1))), (5, .int (nI (1 + k))), (3, .int (nI (ec - 1))), (0, .ref m0), (1, .int (nI bk)), (2, .int (nI z))]) hx hb dX2_writeRoot_77 hl (k := 0) rfl (nI_add _ 1) (by decide) rfl (fun ls hl => ?_)
            refine lv_iinc (v := nI (1 + k + 1)) (lv' := [(5, .int (nI (1 + k + 1))), (4, .int (nI (x + 1 + 1))), (3, .int (nI (ec - 1))), (0, .ref m0), (1, .int (nI bk)), (2, .int (nI z))]) hx hb dX2_writeRoot_80 hl (k := 1) rfl (nI_add _ 1) (by decide) rfl (fun ls hl => ?_)
            refine lv_goto (tgt := 33) hx hb dX2_writeRoot_83 (by decide) ?_
            exact ih (k + 1) ((x + 1) + 1) (by omega) (by omega) (by omega) H locs hP hD hS ls (lv_sub hl [0, 1, 2, 3, 4, 5] rfl)
  refine lv_iload_n hx hb dX2_writeRoot_0 rfl (lv_at hl 2 rfl) ?_
  refine j0_ge (tgt := 11) hx hb (nI_toInt (n := z) (by omega)) dX2_writeRoot_1 (by decide) (fun c5 => ?_) (fun c5 => absurd c5 (by omega))
  refine lv_aload_n hx hb dX2_writeRoot_11 rfl (lv_at hl 0 rfl) ?_
  refine va_get (D := D) (ci := 3) (v := .int (nI ec)) (C := RX2) (T := TX2) (N := 12) hx hb hts hinX2 hown hK hP 0 rfl rfl 4 (by decide) (hts (.fieldLink RX2 54 "PuzzleBookModel" "entries" "I") (by decide +kernel)) (fun _ h9 => h9) rfl dX2_writeRoot_12 ?_
  refine lv_iconst (v := nI 1) hx hb dX2_writeRoot_15 (by decide +kernel) ?_
  refine lv_isub hx hb dX2_writeRoot_16 ?_
  refine lv_as (y := nI (ec - 1)) (pk_sub (by omega)) ?_
  refine lv_istore_n (lv' := [(3, .int (nI (ec - 1))), (0, .ref m0), (1, .int (nI bk)), (2, .int (nI z))]) hx hb dX2_writeRoot_17 rfl hl (by decide) rfl (fun ls hl => ?_)
  refine lv_aload_n hx hb dX2_writeRoot_18 rfl (lv_at hl 1 rfl) ?_
  refine lv_bipush (v := nI 64) hx hb dX2_writeRoot_19 (by decide +kernel) ?_
  refine lv_iload_n hx hb dX2_writeRoot_21 rfl (lv_at hl 2 rfl) ?_
  refine lv_imul hx hb dX2_writeRoot_22 ?_
  refine lv_as (y := nI (64 * bk)) (pk_mul _ _) ?_
  refine lv_as (y := nI (64 * bk + 0)) rfl ?_
  refine lv_iload_n hx hb dX2_writeRoot_23 rfl (lv_at hl 0 rfl) ?_
  refine wr_V (wr := []) (wo := (mW m0 m1 m2 m3 m4 m5 cB cI n (w1 L (64 * bk + 0) (ec - 1)) fd fc op tn eb ec th)) (As := [.int (nI (64 * bk + 0)), .int (nI (ec - 1))]) (rest := []) ⟨hx, hb, hml, hown, hts⟩ (c_X2_write l D m0 m1 m2 m3 m4 m5 cB cI n L fd fc op tn eb ec th (64 * bk + 0) (ec - 1) s.heap.size  (by omega) (by omega)) (cwV 2 hts gX2_writeRoot_X2_write rfl rfl rfl (by decide +kernel) ⟨Nat.le_of_ble_eq_true rfl, Nat.le_of_ble_eq_true rfl⟩) hK hP hD hS hA [0, 1, 2, 3, 4, 5] [] rfl rfl rfl rfl (by decide) [0, 1, 2, 3, 4, 5] rfl rfl (ci := 3) rfl rfl (q0 := 0) rfl rfl hl.1 rfl (Nat.le_of_ble_eq_true rfl) dX2_writeRoot_24 ⟨Nat.zero_le _, Nat.zero_le _⟩ (fun H locs hP hD hS => ?_)
  refine lv_iconst (v := nI 0) hx hb dX2_writeRoot_27 (by decide +kernel) ?_
  refine lv_istore (lv' := [(4, .int (nI 0)), (3, .int (nI (ec - 1))), (0, .ref m0), (1, .int (nI bk)), (2, .int (nI z))]) hx hb dX2_writeRoot_28 hl (by decide) rfl (fun ls hl => ?_)
  refine lv_iconst (v := nI 1) hx hb dX2_writeRoot_30 (by decide +kernel) ?_
  refine lv_istore (lv' := [(5, .int (nI 1)), (4, .int (nI 0)), (3, .int (nI (ec - 1))), (0, .ref m0), (1, .int (nI bk)), (2, .int (nI z))]) hx hb dX2_writeRoot_31 hl (by decide) rfl (fun ls hl => ?_)
  exact loop 60 0 0 (by omega) (by omega) (by omega) H locs hP hD hS ls (lv_sub hl [0, 1, 2, 3, 4, 5] rfl)
set_option maxRecDepth 100000 in
set_option maxHeartbeats 4000000 in
/-- writeEntry(b, name) -/
theorem c_X2_writeEntry (l : Launch) (D : va_G) (m0 m1 m2 m3 m4 m5 : Nat) (cB cI : ClassId) (n : Nat) (L : Lg) (fd : Nat → Nat) (fc : Nat) (op : Nat) (tn : Nat) (eb : Nat → Nat) (ec : Nat) (th : Nat) (bk nm : Nat) (sz : Nat) (h1 : bk < 64) (h2 : nm < 65536) (hf : fc ≤ 48) (hw : L.2.2.2 + 64 ≤ 129) : Met l yX2_writeEntry wsX2_writeEntry ({ frames := 2, cells := 0, slots := 0, locals := 46 }) (wP [.ref m0, .int (nI bk), .int (nI nm)] D (mW m0 m1 m2 m3 m4 m5 cB cI n L fd fc op tn eb ec th) (ty2 cB cI) sz) (wQv D (mW m0 m1 m2 m3 m4 m5 cB cI n (wE L bk nm fc fd) fd fc op tn eb ec th) (va_A (mW m0 m1 m2 m3 m4 m5 cB cI n L fd fc op tn eb ec th) sz)) 0 0 (va_A (mW m0 m1 m2 m3 m4 m5 cB cI n L fd fc op tn eb ec th) sz) := by
  refine met_w (by decide) rfl (Nat.le_of_ble_eq_true rfl) ?_
  intro p e s m below meth c hx hb hml hr hlocks hown hts hP hK A hD hA hS ls hl
  have hown : s.vm.findClass RX2 = some m.cls := hown
  have hinX2 : ∀ w ∈ u_ws RX2 TX2 12, w ∈ wsX2_writeEntry := by decide +kernel
  have hl : lv_has ls 4 [(0, .ref m0), (1, .int (nI bk)), (2, .int (nI nm))] := hl
  have loop : ∀ (fu k : Nat), k ≤ 57 → 57 - k < fu → ∀ (H : Heap) (locs : List Loc), va_P D vwCl (mW m0 m1 m2 m3 m4 m5 cB cI n (wN (w1 (w1 (w1 L (64 * bk + 0) (nm % 256)) (64 * bk + 1) (nm / 256)) (64 * bk + 2) fc) (64 * bk + 3) (bO fd fc) k) fd fc op tn eb ec th) H → va_D A (mW m0 m1 m2 m3 m4 m5 cB cI n (wN (w1 (w1 (w1 L (64 * bk + 0) (nm % 256)) (64 * bk + 1) (nm / 256)) (64 * bk + 2) fc) (64 * bk + 3) (bO fd fc) k) fd fc op tn eb ec th) → va_S A s.heap H locs → ∀ ls : Array Slot, lv_has ls 4 [(3, .int (nI (3 + k))), (0, .ref m0), (1, .int (nI bk)), (2, .int (nI nm))] → W p l e ({ frames := 2, cells := 0, slots := 0, locals := 46 }) s m [.ref m0, .int (nI bk), .int (nI nm)].toArray below meth c H locs 0 0 (MQ below (wQv D (mW m0 m1 m2 m3 m4 m5 cB cI n (wE L bk nm fc fd) fd fc op tn eb ec th) A) [.ref m0, .int (nI bk), .int (nI nm)].toArray s 0 0 A) (F0 m 43 ls []) := by
    intro fu
    induction fu with
    | zero => intro k hk hf; omega
    | succ fu ih =>
      intro k hk hfu H locs hP hD hS ls hl
      refine lv_iload_n hx hb dX2_writeEntry_43 rfl (lv_at hl 0 rfl) ?_
      refine lv_bipush (v := nI 60) hx hb dX2_writeEntry_44 (by decide +kernel) ?_
      refine jb_ge (tgt := 87) hx hb (nI_toInt (n := 3 + k) (by omega)) (nI_toInt (n := 60) (by decide)) dX2_writeEntry_46 (by decide) (fun c1 => ?_) (fun c1 => ?_)
      · skip
        have hk9 : 57 = k := by omega
        subst hk9
        refine lv_aload_n hx hb dX2_writeEntry_87 rfl (lv_at hl 1 rfl) ?_
        refine lv_iload_n hx hb dX2_writeEntry_88 rfl (lv_at hl 2 rfl) ?_
        refine wr_V (wr := []) (wo := (mW m0 m1 m2 m3 m4 m5 cB cI n (wS (wN (w1 (w1 (w1 L (64 * bk + 0) (nm % 256)) (64 * bk + 1) (nm / 256)) (64 * bk + 2) fc) (64 * bk + 3) (bO fd fc) 57) (64 * bk)) fd fc op tn eb ec th)) (As := [.int (nI bk)]) (rest := []) ⟨hx, hb, hml, hown, hts⟩ (c_X2_writeSum l D m0 m1 m2 m3 m4 m5 cB cI n (wN (w1 (w1 (w1 L (64 * bk + 0) (nm % 256)) (64 * bk + 1) (nm / 256)) (64 * bk + 2) fc) (64 * bk + 3) (bO fd fc) 57) fd fc op tn eb ec th bk H.size  h1 (by simp only [wN_c, w1_c]; omega)) (cwV 1 hts gX2_writeEntry_X2_writeSum rfl rfl rfl (by decide +kernel) ⟨Nat.le_of_ble_eq_true rfl, Nat.le_of_ble_eq_true rfl⟩) hK hP hD hS hA [0, 1, 2, 3, 4, 5] [] rfl rfl rfl rfl (by decide) [0, 1, 2, 3, 4, 5] rfl rfl (ci := 3) rfl rfl (q0 := 0) rfl rfl hl.1 rfl (Nat.le_of_ble_eq_true rfl) dX2_writeEntry_89 ⟨Nat.zero_le _, Nat.zero_le _⟩ (fun H locs hP hD hS => ?_)
        exact rt_v hx hb hr hlocks hP hD hS dX2_writeEntry_92
      · skip
        refine lv_aload_n hx hb dX2_writeEntry_49 rfl (lv_at hl 1 rfl) ?_
        refine lv_bipush (v := nI 64) hx hb dX2_writeEntry_50 (by decide +kernel) ?_
        refine lv_iload_n hx hb dX2_writeEntry_52 rfl (lv_at hl 2 rfl) ?_
        refine lv_imul hx hb dX2_writeEntry_53 ?_
        refine lv_as (y := nI (64 * bk)) (pk_mul _ _) ?_
        refine lv_iload_n hx hb dX2_writeEntry_54 rfl (lv_at hl 0 rfl) ?_
        refine lv_iadd hx hb dX2_writeEntry_55 ?_
        refine lv_as (y := nI ((64 * bk) + (3 + k))) (nI_add _ _) ?_
        refine lv_iload_n hx hb dX2_writeEntry_56 rfl (lv_at hl 0 rfl) ?_
        refine lv_iconst (v := nI 3) hx hb dX2_writeEntry_57 (by decide +kernel) ?_
        refine lv_isub hx hb dX2_writeEntry_58 ?_
        refine lv_as (y := nI ((3 + k) - 3)) (pk_sub (by omega)) ?_
        refine lv_as (y := nI k) (congrArg nI (by omega)) ?_
        refine lv_aload_n hx hb dX2_writeEntry_59 rfl (lv_at hl 1 rfl) ?_
        refine va_get (D := D) (ci := 3) (v := .int (nI fc)) (C := RX2) (T := TX2) (N := 12) hx hb hts hinX2 hown hK hP 0 rfl rfl 8 (by decide) (hts (.fieldLink RX2 61 "PuzzleBookModel" "fedLong" "I") (by decide +kernel)) (fun _ h9 => h9) rfl dX2_writeEntry_60 ?_
        refine jb_ge (tgt := 77) hx hb (nI_toInt (n := k) (by omega)) (nI_toInt (n := fc) (by omega)) dX2_writeEntry_63 (by decide) (fun c2 => ?_) (fun c2 => ?_)
        · skip
          refine lv_iconst (v := nI 0) hx hb dX2_writeEntry_77 (by decide +kernel) ?_
          refine lv_as (y := nI (bO fd fc k)) (congrArg nI (bO_f (by omega)).symm) ?_
          refine wr_V (wr := []) (wo := (mW m0 m1 m2 m3 m4 m5 cB cI n (w1 (wN (w1 (w1 (w1 L (64 * bk + 0) (nm % 256)) (64 * bk + 1) (nm / 256)) (64 * bk + 2) fc) (64 * bk + 3) (bO fd fc) k) ((64 * bk) + (3 + k)) (bO fd fc k)) fd fc op tn eb ec th)) (As := [.int (nI ((64 * bk) + (3 + k))), .int (nI (bO fd fc k))]) (rest := []) ⟨hx, hb, hml, hown, hts⟩ (c_X2_write l D m0 m1 m2 m3 m4 m5 cB cI n (wN (w1 (w1 (w1 L (64 * bk + 0) (nm % 256)) (64 * bk + 1) (nm / 256)) (64 * bk + 2) fc) (64 * bk + 3) (bO fd fc) k) fd fc op tn eb ec th ((64 * bk) + (3 + k)) (bO fd fc k) H.size  (by omega) (by simp only [wN_c, w1_c]; omega)) (cwV 2 hts gX2_writeEntry_X2_write rfl rfl rfl (by decide +kernel) ⟨Nat.le_of_ble_eq_true rfl, Nat.le_of_ble_eq_true rfl⟩) hK hP hD hS hA [0, 1, 2, 3, 4, 5] [] rfl rfl rfl rfl (by decide) [0, 1, 2, 3, 4, 5] rfl rfl (ci := 3) rfl rfl (q0 := 0) rfl rfl hl.1 rfl (Nat.le_of_ble_eq_true rfl) dX2_writeEntry_78 ⟨Nat.zero_le _, Nat.zero_le _⟩ (fun H locs hP hD hS => ?_)
          have e9 : w1 (wN (w1 (w1 (w1 L (64 * bk + 0) (nm % 256)) (64 * bk + 1) (nm / 256)) (64 * bk + 2) fc) (64 * bk + 3) (bO fd fc) k) ((64 * bk) + (3 + k)) (bO fd fc k) = wN (w1 (w1 (w1 L (64 * bk + 0) (nm % 256)) (64 * bk + 1) (nm / 256)) (64 * bk + 2) fc) (64 * bk + 3) (bO fd fc) (k + 1) := by show w1 _ _ _ = w1 _ _ _; rw [show 64 * bk + (3 + k) = 64 * bk + 3 + k by omega]
          rw [e9] at hP hD
          refine lv_iinc (v := nI (3 + k + 1)) (lv' := [(3, .int (nI (3 + k + 1))), (0, .ref m0), (1, .int (nI bk)), (2, .int (nI nm))]) hx hb dX2_writeEntry_81 hl (k := 0) rfl (nI_add _ 1) (by decide) rfl (fun ls hl => ?_)
          refine lv_goto (tgt := 43) hx hb dX2_writeEntry_84 (by decide) ?_
          exact ih (k + 1) (by omega) (by omega) H locs hP hD hS ls (lv_sub hl [0, 1, 2, 3] rfl)
        · skip
          refine lv_aload_n hx hb dX2_writeEntry_66 rfl (lv_at hl 1 rfl) ?_
          refine va_get (D := D) (ci := 3) (v := .ref m3) (C := RX2) (T := TX2) (N := 12) hx hb hts hinX2 hown hK hP 0 rfl rfl 7 (by decide) (hts (.fieldLink RX2 16 "PuzzleBookModel" "fed" "[I") (by decide +kernel)) (fun _ h9 => h9) rfl dX2_writeEntry_67 ?_
          refine lv_iload_n hx hb dX2_writeEntry_70 rfl (lv_at hl 0 rfl) ?_
          refine lv_iconst (v := nI 3) hx hb dX2_writeEntry_71 (by decide +kernel) ?_
          refine lv_isub hx hb dX2_writeEntry_72 ?_
          refine lv_as (y := nI ((3 + k) - 3)) (pk_sub (by omega)) ?_
          refine lv_as (y := nI k) (congrArg nI (by omega)) ?_
          refine ld_i (f := fd) (k := k) hx hb hK hP 3 1 rfl rfl (by omega) (by decide) dX2_writeEntry_73 ?_
          refine lv_as (y := nI (bO fd fc k)) (congrArg nI (bO_t (by omega)).symm) ?_
          refine lv_goto (tgt := 78) hx hb dX2_writeEntry_74 (by decide) ?_
          refine wr_V (wr := []) (wo := (mW m0 m1 m2 m3 m4 m5 cB cI n (w1 (wN (w1 (w1 (w1 L (64 * bk + 0) (nm % 256)) (64 * bk + 1) (nm / 256)) (64 * bk + 2) fc) (64 * bk + 3) (bO fd fc) k) ((64 * bk) + (3 + k)) (bO fd fc k)) fd fc op tn eb ec th)) (As := [.int (nI ((64 * bk) + (3 + k))), .int (nI (bO fd fc k))]) (rest := []) ⟨hx, hb, hml, hown, hts⟩ (c_X2_write l D m0 m1 m2 m3 m4 m5 cB cI n (wN (w1 (w1 (w1 L (64 * bk + 0) (nm % 256)) (64 * bk + 1) (nm / 256)) (64 * bk + 2) fc) (64 * bk + 3) (bO fd fc) k) fd fc op tn eb ec th ((64 * bk) + (3 + k)) (bO fd fc k) H.size  (by omega) (by simp only [wN_c, w1_c]; omega)) (cwV 2 hts gX2_writeEntry_X2_write rfl rfl rfl (by decide +kernel) ⟨Nat.le_of_ble_eq_true rfl, Nat.le_of_ble_eq_true rfl⟩) hK hP hD hS hA [0, 1, 2, 3, 4, 5] [] rfl rfl rfl rfl (by decide) [0, 1, 2, 3, 4, 5] rfl rfl (ci := 3) rfl rfl (q0 := 0) rfl rfl hl.1 rfl (Nat.le_of_ble_eq_true rfl) dX2_writeEntry_78 ⟨Nat.zero_le _, Nat.zero_le _⟩ (fun H locs hP hD hS => ?_)
          have e9 : w1 (wN (w1 (w1 (w1 L (64 * bk + 0) (nm % 256)) (64 * bk + 1) (nm / 256)) (64 * bk + 2) fc) (64 * bk + 3) (bO fd fc) k) ((64 * bk) + (3 + k)) (bO fd fc k) = wN (w1 (w1 (w1 L (64 * bk + 0) (nm % 256)) (64 * bk + 1) (nm / 256)) (64 * bk + 2) fc) (64 * bk + 3) (bO fd fc) (k + 1) := by show w1 _ _ _ = w1 _ _ _; rw [show 64 * bk + (3 + k) = 64 * bk + 3 + k by omega]
          rw [e9] at hP hD
          refine lv_iinc (v := nI (3 + k + 1)) (lv' := [(3, .int (nI (3 + k + 1))), (0, .ref m0), (1, .int (nI bk)), (2, .int (nI nm))]) hx hb dX2_writeEntry_81 hl (k := 0) rfl (nI_add _ 1) (by decide) rfl (fun ls hl => ?_)
          refine lv_goto (tgt := 43) hx hb dX2_writeEntry_84 (by decide) ?_
          exact ih (k + 1) (by omega) (by omega) H locs hP hD hS ls (lv_sub hl [0, 1, 2, 3] rfl)
  refine lv_aload_n hx hb dX2_writeEntry_0 rfl (lv_at hl 0 rfl) ?_
  refine lv_bipush (v := nI 64) hx hb dX2_writeEntry_1 (by decide +kernel) ?_
  refine lv_iload_n hx hb dX2_writeEntry_3 rfl (lv_at hl 1 rfl) ?_
  refine lv_imul hx hb dX2_writeEntry_4 ?_
  refine lv_as (y := nI (64 * bk)) (pk_mul _ _) ?_
  refine lv_as (y := nI (64 * bk + 0)) rfl ?_
  refine lv_iload_n hx hb dX2_writeEntry_5 rfl (lv_at hl 2 rfl) ?_
  refine lv_sipush (v := nI 255) hx hb dX2_writeEntry_6 (by decide +kernel) ?_
  refine lv_iand hx hb dX2_writeEntry_9 ?_
  refine lv_as (y := nI (nm % 256)) (pk_andN (by omega) 8 (by decide +kernel)) ?_
  refine wr_V (wr := []) (wo := (mW m0 m1 m2 m3 m4 m5 cB cI n (w1 L (64 * bk + 0) (nm % 256)) fd fc op tn eb ec th)) (As := [.int (nI (64 * bk + 0)), .int (nI (nm % 256))]) (rest := []) ⟨hx, hb, hml, hown, hts⟩ (c_X2_write l D m0 m1 m2 m3 m4 m5 cB cI n L fd fc op tn eb ec th (64 * bk + 0) (nm % 256) s.heap.size  (by omega) (by omega)) (cwV 2 hts gX2_writeEntry_X2_write rfl rfl rfl (by decide +kernel) ⟨Nat.le_of_ble_eq_true rfl, Nat.le_of_ble_eq_true rfl⟩) hK hP hD hS hA [0, 1, 2, 3, 4, 5] [] rfl rfl rfl rfl (by decide) [0, 1, 2, 3, 4, 5] rfl rfl (ci := 3) rfl rfl (q0 := 0) rfl rfl hl.1 rfl (Nat.le_of_ble_eq_true rfl) dX2_writeEntry_10 ⟨Nat.zero_le _, Nat.zero_le _⟩ (fun H locs hP hD hS => ?_)
  refine lv_aload_n hx hb dX2_writeEntry_13 rfl (lv_at hl 0 rfl) ?_
  refine lv_bipush (v := nI 64) hx hb dX2_writeEntry_14 (by decide +kernel) ?_
  refine lv_iload_n hx hb dX2_writeEntry_16 rfl (lv_at hl 1 rfl) ?_
  refine lv_imul hx hb dX2_writeEntry_17 ?_
  refine lv_as (y := nI (64 * bk)) (pk_mul _ _) ?_
  refine lv_iconst (v := nI 1) hx hb dX2_writeEntry_18 (by decide +kernel) ?_
  refine lv_iadd hx hb dX2_writeEntry_19 ?_
  refine lv_as (y := nI ((64 * bk) + 1)) (nI_add _ _) ?_
  refine lv_iload_n hx hb dX2_writeEntry_20 rfl (lv_at hl 2 rfl) ?_
  refine lv_bipush (v := nI 8) hx hb dX2_writeEntry_21 (by decide +kernel) ?_
  refine lv_ishr hx hb dX2_writeEntry_23 ?_
  refine lv_as (y := nI (nm / 256)) (pk_shrN (by omega) _ 8 (by decide +kernel)) ?_
  refine wr_V (wr := []) (wo := (mW m0 m1 m2 m3 m4 m5 cB cI n (w1 (w1 L (64 * bk + 0) (nm % 256)) ((64 * bk) + 1) (nm / 256)) fd fc op tn eb ec th)) (As := [.int (nI ((64 * bk) + 1)), .int (nI (nm / 256))]) (rest := []) ⟨hx, hb, hml, hown, hts⟩ (c_X2_write l D m0 m1 m2 m3 m4 m5 cB cI n (w1 L (64 * bk + 0) (nm % 256)) fd fc op tn eb ec th ((64 * bk) + 1) (nm / 256) H.size  (by omega) (by simp only [w1_c]; omega)) (cwV 2 hts gX2_writeEntry_X2_write rfl rfl rfl (by decide +kernel) ⟨Nat.le_of_ble_eq_true rfl, Nat.le_of_ble_eq_true rfl⟩) hK hP hD hS hA [0, 1, 2, 3, 4, 5] [] rfl rfl rfl rfl (by decide) [0, 1, 2, 3, 4, 5] rfl rfl (ci := 3) rfl rfl (q0 := 0) rfl rfl hl.1 rfl (Nat.le_of_ble_eq_true rfl) dX2_writeEntry_24 ⟨Nat.zero_le _, Nat.zero_le _⟩ (fun H locs hP hD hS => ?_)
  refine lv_aload_n hx hb dX2_writeEntry_27 rfl (lv_at hl 0 rfl) ?_
  refine lv_bipush (v := nI 64) hx hb dX2_writeEntry_28 (by decide +kernel) ?_
  refine lv_iload_n hx hb dX2_writeEntry_30 rfl (lv_at hl 1 rfl) ?_
  refine lv_imul hx hb dX2_writeEntry_31 ?_
  refine lv_as (y := nI (64 * bk)) (pk_mul _ _) ?_
  refine lv_iconst (v := nI 2) hx hb dX2_writeEntry_32 (by decide +kernel) ?_
  refine lv_iadd hx hb dX2_writeEntry_33 ?_
  refine lv_as (y := nI ((64 * bk) + 2)) (nI_add _ _) ?_
  refine lv_aload_n hx hb dX2_writeEntry_34 rfl (lv_at hl 0 rfl) ?_
  refine va_get (D := D) (ci := 3) (v := .int (nI fc)) (C := RX2) (T := TX2) (N := 12) hx hb hts hinX2 hown hK hP 0 rfl rfl 8 (by decide) (hts (.fieldLink RX2 61 "PuzzleBookModel" "fedLong" "I") (by decide +kernel)) (fun _ h9 => h9) rfl dX2_writeEntry_35 ?_
  refine wr_V (wr := []) (wo := (mW m0 m1 m2 m3 m4 m5 cB cI n (w1 (w1 (w1 L (64 * bk + 0) (nm % 256)) ((64 * bk) + 1) (nm / 256)) ((64 * bk) + 2) fc) fd fc op tn eb ec th)) (As := [.int (nI ((64 * bk) + 2)), .int (nI fc)]) (rest := []) ⟨hx, hb, hml, hown, hts⟩ (c_X2_write l D m0 m1 m2 m3 m4 m5 cB cI n (w1 (w1 L (64 * bk + 0) (nm % 256)) ((64 * bk) + 1) (nm / 256)) fd fc op tn eb ec th ((64 * bk) + 2) fc H.size  (by omega) (by simp only [w1_c]; omega)) (cwV 2 hts gX2_writeEntry_X2_write rfl rfl rfl (by decide +kernel) ⟨Nat.le_of_ble_eq_true rfl, Nat.le_of_ble_eq_true rfl⟩) hK hP hD hS hA [0, 1, 2, 3, 4, 5] [] rfl rfl rfl rfl (by decide) [0, 1, 2, 3, 4, 5] rfl rfl (ci := 3) rfl rfl (q0 := 0) rfl rfl hl.1 rfl (Nat.le_of_ble_eq_true rfl) dX2_writeEntry_38 ⟨Nat.zero_le _, Nat.zero_le _⟩ (fun H locs hP hD hS => ?_)
  refine lv_iconst (v := nI 3) hx hb dX2_writeEntry_41 (by decide +kernel) ?_
  refine lv_istore_n (lv' := [(3, .int (nI 3)), (0, .ref m0), (1, .int (nI bk)), (2, .int (nI nm))]) hx hb dX2_writeEntry_42 rfl hl (by decide) rfl (fun ls hl => ?_)
  exact loop 58 0 (by omega) (by omega) H locs hP hD hS ls (lv_sub hl [0, 1, 2, 3] rfl)
set_option maxRecDepth 100000 in
set_option maxHeartbeats 4000000 in
/-- turnTo(t) -/
theorem c_X2_turnTo (l : Launch) (D : va_G) (m0 m1 m2 m3 m4 m5 : Nat) (cB cI : ClassId) (n : Nat) (L : Lg) (fd : Nat → Nat) (fc : Nat) (op : Nat) (tn : Nat) (eb : Nat → Nat) (ec : Nat) (th : Nat) (t : Nat) (sz : Nat) (hw : L.2.2.2 < 129) : Met l yX2_turnTo wsX2_turnTo ({ frames := 1, cells := 0, slots := 0, locals := 22 }) (wP [.ref m0, .int (nI t)] D (mW m0 m1 m2 m3 m4 m5 cB cI n L fd fc op tn eb ec th) (ty2 cB cI) sz) (wQv D (mW m0 m1 m2 m3 m4 m5 cB cI n (w1 L (64 * 0 + 0) t) fd fc op t eb ec th) (va_A (mW m0 m1 m2 m3 m4 m5 cB cI n L fd fc op tn eb ec th) sz)) 0 0 (va_A (mW m0 m1 m2 m3 m4 m5 cB cI n L fd fc op tn eb ec th) sz) := by
  refine met_w (by decide) rfl (Nat.le_of_ble_eq_true rfl) ?_
  intro p e s m below meth c hx hb hml hr hlocks hown hts hP hK A hD hA hS ls hl
  have hown : s.vm.findClass RX2 = some m.cls := hown
  have hinX2 : ∀ w ∈ u_ws RX2 TX2 12, w ∈ wsX2_turnTo := by decide +kernel
  have hl : lv_has ls 2 [(0, .ref m0), (1, .int (nI t))] := hl
  refine lv_aload_n hx hb dX2_turnTo_0 rfl (lv_at hl 0 rfl) ?_
  refine lv_iconst (v := nI 0) hx hb dX2_turnTo_1 (by decide +kernel) ?_
  refine lv_as (y := nI (64 * 0 + 0)) rfl ?_
  refine lv_iload_n hx hb dX2_turnTo_2 rfl (lv_at hl 1 rfl) ?_
  refine wr_V (wr := []) (wo := (mW m0 m1 m2 m3 m4 m5 cB cI n (w1 L (64 * 0 + 0) t) fd fc op tn eb ec th)) (As := [.int (nI (64 * 0 + 0)), .int (nI t)]) (rest := []) ⟨hx, hb, hml, hown, hts⟩ (c_X2_write l D m0 m1 m2 m3 m4 m5 cB cI n L fd fc op tn eb ec th (64 * 0 + 0) t s.heap.size  (by decide) hw) (cwV 2 hts gX2_turnTo_X2_write rfl rfl rfl (by decide +kernel) ⟨Nat.le_of_ble_eq_true rfl, Nat.le_of_ble_eq_true rfl⟩) hK hP hD hS hA [0, 1, 2, 3, 4, 5] [] rfl rfl rfl rfl (by decide) [0, 1, 2, 3, 4, 5] rfl rfl (ci := 3) rfl rfl (q0 := 0) rfl rfl hl.1 rfl (Nat.le_of_ble_eq_true rfl) dX2_turnTo_3 ⟨Nat.zero_le _, Nat.zero_le _⟩ (fun H locs hP hD hS => ?_)
  refine lv_aload_n hx hb dX2_turnTo_6 rfl (lv_at hl 0 rfl) ?_
  refine lv_iload_n hx hb dX2_turnTo_7 rfl (lv_at hl 1 rfl) ?_
  refine va_put (D := D) (ci := 3) (v := .int (nI t)) (ty := .int) (C := RX2) (T := TX2) (N := 12) hx hb hts hinX2 tyX2 tyX2_ok nmX2 hown hK hP hD hS 0 rfl rfl 3 (by decide) (hts (.fieldLink RX2 29 "PuzzleBookModel" "turn" "I") (by decide +kernel)) (fun _ h9 => h9) rfl (by decide +kernel) rfl rfl (Nat.le_of_ble_eq_true rfl) dX2_turnTo_8 (fun H locs hP hD hS => ?_)
  have hP : va_P D vwCl (mW m0 m1 m2 m3 m4 m5 cB cI n (w1 L (64 * 0 + 0) t) fd fc op t eb ec th) H := hP
  have hD : va_D A (mW m0 m1 m2 m3 m4 m5 cB cI n (w1 L (64 * 0 + 0) t) fd fc op t eb ec th) := hD
  exact rt_v hx hb hr hlocks hP hD hS dX2_turnTo_11
set_option maxRecDepth 100000 in
set_option maxHeartbeats 4000000 in
/-- isUsed(b) -/
theorem c_X2_isUsed (l : Launch) (D : va_G) (m0 m1 m2 m3 m4 m5 : Nat) (cB cI : ClassId) (n : Nat) (L : Lg) (fd : Nat → Nat) (fc : Nat) (op : Nat) (tn : Nat) (eb : Nat → Nat) (ec : Nat) (th : Nat) (bk : Nat) (hn : n ≤ 64) (he : ec ≤ 40) (hE : ∀ k, bO eb ec k < n) (hb0 : bk < 2 ^ 31) : Met l yX2_isUsed wsX2_isUsed ({ frames := 0, cells := 0, slots := 0, locals := 0 }) (rP [.ref m0, .int (nI bk)] D (mW m0 m1 m2 m3 m4 m5 cB cI n L fd fc op tn eb ec th) (ty2 cB cI)) (vp_Si (fun r => r = nI (b01 (tk (bO eb ec) ec bk)))) 0 0 (fun _ => False) := by
  refine met_r (by decide) rfl (Nat.le_of_ble_eq_true rfl) ?_
  intro p e s m below meth c hx hb hml hr hlocks hown hts hP hK ls hl
  have hown : s.vm.findClass RX2 = some m.cls := hown
  have hinX2 : ∀ w ∈ u_ws RX2 TX2 12, w ∈ wsX2_isUsed := by decide +kernel
  have hl : lv_has ls 3 [(0, .ref m0), (1, .int (nI bk))] := hl
  have loop : ∀ (fu k : Nat), k ≤ ec → ec - k < fu → (∀ j, j < k → ¬ bO eb ec j = bk) → ∀ ls : Array Slot, lv_has ls 3 [(2, .int (nI k)), (0, .ref m0), (1, .int (nI bk))] → W p l e ({ frames := 0, cells := 0, slots := 0, locals := 0 }) s m [.ref m0, .int (nI bk)].toArray below meth c s.heap [] 0 0 (MQ below (vp_Si (fun r => r = nI (b01 (tk (bO eb ec) ec bk)))) [.ref m0, .int (nI bk)].toArray s 0 0 (fun _ => False)) (F0 m 2 ls []) := by
    intro fu
    induction fu with
    | zero => intro k hk hf; omega
    | succ fu ih =>
      intro k hk hfu hj ls hl
      refine lv_iload_n hx hb dX2_isUsed_2 rfl (lv_at hl 0 rfl) ?_
      refine lv_aload_n hx hb dX2_isUsed_3 rfl (lv_at hl 1 rfl) ?_
      refine va_get (D := D) (ci := 3) (v := .int (nI ec)) (C := RX2) (T := TX2) (N := 12) hx hb hts hinX2 hown hK hP 0 rfl rfl 4 (by decide) (hts (.fieldLink RX2 54 "PuzzleBookModel" "entries" "I") (by decide +kernel)) (fun _ h9 => h9) rfl dX2_isUsed_4 ?_
      refine jb_ge (tgt := 28) hx hb (nI_toInt (n := k) (by omega)) (nI_toInt (n := ec) (by omega)) dX2_isUsed_7 (by decide) (fun c1 => ?_) (fun c1 => ?_)
      · skip
        refine lv_iconst (v := nI 0) hx hb dX2_isUsed_28 (by decide +kernel) ?_
        have hk9 : ec = k := by omega
        subst hk9
        exact rt_z hx hb hr hlocks dX2_isUsed_29 (by decide +kernel) (by rw [b01_f (fun ⟨j, h, q⟩ => hj j h q)])
      · skip
        refine lv_aload_n hx hb dX2_isUsed_10 rfl (lv_at hl 1 rfl) ?_
        refine va_get (D := D) (ci := 3) (v := .ref m2) (C := RX2) (T := TX2) (N := 12) hx hb hts hinX2 hown hK hP 0 rfl rfl 6 (by decide) (hts (.fieldLink RX2 13 "PuzzleBookModel" "block" "[I") (by decide +kernel)) (fun _ h9 => h9) rfl dX2_isUsed_11 ?_
        refine lv_iload_n hx hb dX2_isUsed_14 rfl (lv_at hl 0 rfl) ?_
        refine ld_i (f := eb) (k := k) hx hb hK hP 2 1 rfl rfl (by omega) (by decide) dX2_isUsed_15 ?_
        refine lv_as (y := nI (bO eb ec k)) (congrArg nI (bO_t (by omega)).symm) ?_
        have e9 := hE k
        refine lv_iload_n hx hb dX2_isUsed_16 rfl (lv_at hl 2 rfl) ?_
        refine jb_ne (tgt := 22) hx hb (nI_toInt (n := bO eb ec k) (by omega)) (nI_toInt (n := bk) (by omega)) dX2_isUsed_17 (by decide) (fun c2 => ?_) (fun c2 => ?_)
        · skip
          refine lv_iinc (v := nI (k + 1)) (lv' := [(2, .int (nI (k + 1))), (0, .ref m0), (1, .int (nI bk))]) hx hb dX2_isUsed_22 hl (k := 0) rfl (nI_add _ 1) (by decide) rfl (fun ls hl => ?_)
          refine lv_goto (tgt := 2) hx hb dX2_isUsed_25 (by decide) ?_
          exact ih (k + 1) (by omega) (by omega) (fun j q => (Nat.lt_or_eq_of_le (Nat.le_of_lt_succ q)).elim (hj j) (fun q => by rw [q]; exact fun z => c2 (by rw [z]))) ls (lv_sub hl [0, 1, 2] rfl)
        · skip
          refine lv_iconst (v := nI 1) hx hb dX2_isUsed_20 (by decide +kernel) ?_
          exact rt_z hx hb hr hlocks dX2_isUsed_21 (by decide +kernel) (by rw [b01_t ⟨k, by omega, Int.ofNat_inj.mp c2⟩])
  refine lv_iconst (v := nI 0) hx hb dX2_isUsed_0 (by decide +kernel) ?_
  refine lv_istore_n (lv' := [(2, .int (nI 0)), (0, .ref m0), (1, .int (nI bk))]) hx hb dX2_isUsed_1 rfl hl (by decide) rfl (fun ls hl => ?_)
  exact loop (ec + 1) 0 (by omega) (by omega) (fun j q => absurd q (Nat.not_lt_zero j)) ls (lv_sub hl [0, 1, 2] rfl)
set_option maxRecDepth 100000 in
set_option maxHeartbeats 4000000 in
/-- leastFree() -/
theorem c_X2_leastFree (l : Launch) (D : va_G) (m0 m1 m2 m3 m4 m5 : Nat) (cB cI : ClassId) (n : Nat) (L : Lg) (fd : Nat → Nat) (fc : Nat) (op : Nat) (tn : Nat) (eb : Nat → Nat) (ec : Nat) (th : Nat)  (hn0 : 4 ≤ n) (hn : n ≤ 64) (he : ec ≤ 40) (hE : ∀ k, bO eb ec k < n) : Met l yX2_leastFree wsX2_leastFree ({ frames := 1, cells := 0, slots := 0, locals := 22 }) (rP [.ref m0] D (mW m0 m1 m2 m3 m4 m5 cB cI n L fd fc op tn eb ec th) (ty2 cB cI)) (vp_Si (fun r => r = if lfB (bO eb ec) ec n < n then nI (lfB (bO eb ec) ec n) else -1)) 0 0 (fun _ => False) := by
  refine met_r (by decide) rfl (Nat.le_of_ble_eq_true rfl) ?_
  intro p e s m below meth c hx hb hml hr hlocks hown hts hP hK ls hl
  have hown : s.vm.findClass RX2 = some m.cls := hown
  have hinX2 : ∀ w ∈ u_ws RX2 TX2 12, w ∈ wsX2_leastFree := by decide +kernel
  have hl : lv_has ls 2 [(0, .ref m0)] := hl
  have loop : ∀ (fu j : Nat), 3 + j ≤ n → n - (3 + j) < fu → (∀ i, i < j → ¬ ¬ tk (bO eb ec) ec (3 + i)) → ∀ ls : Array Slot, lv_has ls 2 [(1, .int (nI (3 + j))), (0, .ref m0)] → W p l e ({ frames := 1, cells := 0, slots := 0, locals := 22 }) s m [.ref m0].toArray below meth c s.heap [] 0 0 (MQ below (vp_Si (fun r => r = if lfB (bO eb ec) ec n < n then nI (lfB (bO eb ec) ec n) else -1)) [.ref m0].toArray s 0 0 (fun _ => False)) (F0 m 2 ls []) := by
    intro fu
    induction fu with
    | zero => intro k hk hf; omega
    | succ fu ih =>
      intro j hj hfu hi ls hl
      refine lv_iload_n hx hb dX2_leastFree_2 rfl (lv_at hl 0 rfl) ?_
      refine lv_aload_n hx hb dX2_leastFree_3 rfl (lv_at hl 1 rfl) ?_
      refine va_get (D := D) (ci := 3) (v := .int (nI n)) (C := RX2) (T := TX2) (N := 12) hx hb hts hinX2 hown hK hP 0 rfl rfl 0 (by decide) (hts (.fieldLink RX2 25 "PuzzleBookModel" "blocks" "I") (by decide +kernel)) (fun _ h9 => h9) rfl dX2_leastFree_4 ?_
      refine jb_ge (tgt := 26) hx hb (nI_toInt (n := 3 + j) (by omega)) (nI_toInt (n := n) (by omega)) dX2_leastFree_7 (by decide) (fun c1 => ?_) (fun c1 => ?_)
      · skip
        refine lv_iconst (v := -1) hx hb dX2_leastFree_26 (by decide +kernel) ?_
        have e9 : lfB (bO eb ec) ec n = n := by unfold lfB; rw [fN_no (fun k hk => hi k (by omega))]; omega
        exact rt_i hx hb hr hlocks dX2_leastFree_27 (by rw [e9, if_neg (Nat.lt_irrefl n)])
      · skip
        refine lv_aload_n hx hb dX2_leastFree_10 rfl (lv_at hl 1 rfl) ?_
        refine lv_iload_n hx hb dX2_leastFree_11 rfl (lv_at hl 0 rfl) ?_
        refine rd_V (As := [.int (nI (3 + j))]) (rest := []) ⟨hx, hb, hml, hown, hts⟩ (c_X2_isUsed l D m0 m1 m2 m3 m4 m5 cB cI n L fd fc op tn eb ec th (3 + j) hn he hE (by omega)) (cwV 1 hts gX2_leastFree_X2_isUsed rfl rfl rfl (by decide +kernel) ⟨Nat.le_of_ble_eq_true rfl, Nat.le_of_ble_eq_true rfl⟩) hK hP [0, 1, 2, 3, 4, 5] rfl (ci := 3) rfl rfl (q0 := 0) rfl rfl hl.1 rfl (Nat.le_of_ble_eq_true rfl) dX2_leastFree_12 ⟨Nat.zero_le _, Nat.zero_le _⟩ (fun r2 hr2 => ?_)
        subst hr2
        by_cases q3 : (tk (bO eb ec) ec (3 + j))
        · skip
          refine lv_as (y := nI 1) (congrArg nI (b01_t q3)) ?_
          refine j0_ne (tgt := 20) hx hb (nI_toInt (n := 1) (by decide)) dX2_leastFree_15 (by decide) (fun c4 => ?_) (fun c4 => absurd c4 (by omega))
          refine lv_iinc (v := nI (3 + j + 1)) (lv' := [(1, .int (nI (3 + j + 1))), (0, .ref m0)]) hx hb dX2_leastFree_20 hl (k := 0) rfl (nI_add _ 1) (by decide) rfl (fun ls hl => ?_)
          refine lv_goto (tgt := 2) hx hb dX2_leastFree_23 (by decide) ?_
          exact ih (j + 1) (by omega) (by omega) (fun i q => (Nat.lt_or_eq_of_le (Nat.le_of_lt_succ q)).elim (hi i) (fun q => by rw [q]; exact fun z => z q3)) ls (lv_sub hl [0, 1] rfl)
        · skip
          refine lv_as (y := nI 0) (congrArg nI (b01_f q3)) ?_
          refine j0_ne (tgt := 20) hx hb (nI_toInt (n := 0) (by decide)) dX2_leastFree_15 (by decide) (fun c5 => absurd c5 (by omega)) (fun c5 => ?_)
          refine lv_iload_n hx hb dX2_leastFree_18 rfl (lv_at hl 0 rfl) ?_
          have e9 : lfB (bO eb ec) ec n = 3 + j := by unfold lfB; rw [fN_eq (P := (fun j => ¬ tk (bO eb ec) ec (3 + j))) (by omega) q3 hi]
          exact rt_i hx hb hr hlocks dX2_leastFree_19 (by rw [e9, if_pos (by omega)])
  refine lv_iconst (v := nI 3) hx hb dX2_leastFree_0 (by decide +kernel) ?_
  refine lv_istore_n (lv' := [(1, .int (nI 3)), (0, .ref m0)]) hx hb dX2_leastFree_1 rfl hl (by decide) rfl (fun ls hl => ?_)
  exact loop (n + 1) 0 (by omega) (by omega) (fun j q => absurd q (Nat.not_lt_zero j)) ls (lv_sub hl [0, 1] rfl)
set_option maxRecDepth 100000 in
set_option maxHeartbeats 4000000 in
/-- nameOf(e) -/
theorem c_X2_nameOf (l : Launch) (D : va_G) (m0 m1 m2 m3 m4 m5 : Nat) (cB cI : ClassId) (n : Nat) (L : Lg) (fd : Nat → Nat) (fc : Nat) (op : Nat) (tn : Nat) (eb : Nat → Nat) (ec : Nat) (th : Nat) (k : Nat) (hn : n ≤ 64) (hg : ∀ j, L.1 j < 256) (he : ec ≤ 40) (hE : ∀ k, bO eb ec k < n) (hk : k < ec) : Met l yX2_nameOf wsX2_nameOf ({ frames := 0, cells := 0, slots := 0, locals := 0 }) (rP [.ref m0, .int (nI k)] D (mW m0 m1 m2 m3 m4 m5 cB cI n L fd fc op tn eb ec th) (ty2 cB cI)) (vp_Si (fun r => r = nI (nmO L.1 (bO eb ec k)))) 0 0 (fun _ => False) := by
  refine met_r (by decide) rfl (Nat.le_of_ble_eq_true rfl) ?_
  intro p e s m below meth c hx hb hml hr hlocks hown hts hP hK ls hl
  have hown : s.vm.findClass RX2 = some m.cls := hown
  have hinX2 : ∀ w ∈ u_ws RX2 TX2 12, w ∈ wsX2_nameOf := by decide +kernel
  have hl : lv_has ls 2 [(0, .ref m0), (1, .int (nI k))] := hl
  have e9 := hE k
  refine lv_aload_n hx hb dX2_nameOf_0 rfl (lv_at hl 0 rfl) ?_
  refine va_get (D := D) (ci := 3) (v := .ref m1) (C := RX2) (T := TX2) (N := 12) hx hb hts hinX2 hown hK hP 0 rfl rfl 1 (by decide) (hts (.fieldLink RX2 7 "PuzzleBookModel" "store" "[I") (by decide +kernel)) (fun _ h9 => h9) rfl dX2_nameOf_1 ?_
  refine lv_bipush (v := nI 64) hx hb dX2_nameOf_4 (by decide +kernel) ?_
  refine lv_aload_n hx hb dX2_nameOf_6 rfl (lv_at hl 0 rfl) ?_
  refine va_get (D := D) (ci := 3) (v := .ref m2) (C := RX2) (T := TX2) (N := 12) hx hb hts hinX2 hown hK hP 0 rfl rfl 6 (by decide) (hts (.fieldLink RX2 13 "PuzzleBookModel" "block" "[I") (by decide +kernel)) (fun _ h9 => h9) rfl dX2_nameOf_7 ?_
  refine lv_iload_n hx hb dX2_nameOf_10 rfl (lv_at hl 1 rfl) ?_
  refine ld_i (f := eb) (k := k) hx hb hK hP 2 1 rfl rfl (by omega) (by decide) dX2_nameOf_11 ?_
  refine lv_as (y := nI (bO eb ec k)) (congrArg nI (bO_t (by omega)).symm) ?_
  refine lv_imul hx hb dX2_nameOf_12 ?_
  refine lv_as (y := nI (64 * (bO eb ec k))) (pk_mul _ _) ?_
  refine ld_i (f := L.1) (k := 64 * (bO eb ec k)) hx hb hK hP 1 1 rfl rfl (by omega) (by decide) dX2_nameOf_13 ?_
  have e9 := hE k
  refine lv_sipush (v := nI 256) hx hb dX2_nameOf_14 (by decide +kernel) ?_
  refine lv_aload_n hx hb dX2_nameOf_17 rfl (lv_at hl 0 rfl) ?_
  refine va_get (D := D) (ci := 3) (v := .ref m1) (C := RX2) (T := TX2) (N := 12) hx hb hts hinX2 hown hK hP 0 rfl rfl 1 (by decide) (hts (.fieldLink RX2 7 "PuzzleBookModel" "store" "[I") (by decide +kernel)) (fun _ h9 => h9) rfl dX2_nameOf_18 ?_
  refine lv_bipush (v := nI 64) hx hb dX2_nameOf_21 (by decide +kernel) ?_
  refine lv_aload_n hx hb dX2_nameOf_23 rfl (lv_at hl 0 rfl) ?_
  refine va_get (D := D) (ci := 3) (v := .ref m2) (C := RX2) (T := TX2) (N := 12) hx hb hts hinX2 hown hK hP 0 rfl rfl 6 (by decide) (hts (.fieldLink RX2 13 "PuzzleBookModel" "block" "[I") (by decide +kernel)) (fun _ h9 => h9) rfl dX2_nameOf_24 ?_
  refine lv_iload_n hx hb dX2_nameOf_27 rfl (lv_at hl 1 rfl) ?_
  refine ld_i (f := eb) (k := k) hx hb hK hP 2 1 rfl rfl (by omega) (by decide) dX2_nameOf_28 ?_
  refine lv_as (y := nI (bO eb ec k)) (congrArg nI (bO_t (by omega)).symm) ?_
  refine lv_imul hx hb dX2_nameOf_29 ?_
  refine lv_as (y := nI (64 * (bO eb ec k))) (pk_mul _ _) ?_
  refine lv_iconst (v := nI 1) hx hb dX2_nameOf_30 (by decide +kernel) ?_
  refine lv_iadd hx hb dX2_nameOf_31 ?_
  refine lv_as (y := nI ((64 * (bO eb ec k)) + 1)) (nI_add _ _) ?_
  refine ld_i (f := L.1) (k := (64 * (bO eb ec k)) + 1) hx hb hK hP 1 1 rfl rfl (by omega) (by decide) dX2_nameOf_32 ?_
  refine lv_imul hx hb dX2_nameOf_33 ?_
  refine lv_as (y := nI (256 * (L.1 ((64 * (bO eb ec k)) + 1)))) (pk_mul _ _) ?_
  refine lv_iadd hx hb dX2_nameOf_34 ?_
  refine lv_as (y := nI ((L.1 (64 * (bO eb ec k))) + (256 * (L.1 ((64 * (bO eb ec k)) + 1))))) (nI_add _ _) ?_
  exact rt_i hx hb hr hlocks dX2_nameOf_35 rfl
set_option maxRecDepth 100000 in
set_option maxHeartbeats 4000000 in
/-- longOf(e) -/
theorem c_X2_longOf (l : Launch) (D : va_G) (m0 m1 m2 m3 m4 m5 : Nat) (cB cI : ClassId) (n : Nat) (L : Lg) (fd : Nat → Nat) (fc : Nat) (op : Nat) (tn : Nat) (eb : Nat → Nat) (ec : Nat) (th : Nat) (k : Nat) (hn : n ≤ 64) (hg : ∀ j, L.1 j < 256) (he : ec ≤ 40) (hE : ∀ k, bO eb ec k < n) (hk : k < ec) : Met l yX2_longOf wsX2_longOf ({ frames := 0, cells := 0, slots := 0, locals := 0 }) (rP [.ref m0, .int (nI k)] D (mW m0 m1 m2 m3 m4 m5 cB cI n L fd fc op tn eb ec th) (ty2 cB cI)) (vp_Si (fun r => r = nI (L.1 (64 * bO eb ec k + 2)))) 0 0 (fun _ => False) := by
  refine met_r (by decide) rfl (Nat.le_of_ble_eq_true rfl) ?_
  intro p e s m below meth c hx hb hml hr hlocks hown hts hP hK ls hl
  have hown : s.vm.findClass RX2 = some m.cls := hown
  have hinX2 : ∀ w ∈ u_ws RX2 TX2 12, w ∈ wsX2_longOf := by decide +kernel
  have hl : lv_has ls 2 [(0, .ref m0), (1, .int (nI k))] := hl
  have e9 := hE k
  refine lv_aload_n hx hb dX2_longOf_0 rfl (lv_at hl 0 rfl) ?_
  refine va_get (D := D) (ci := 3) (v := .ref m1) (C := RX2) (T := TX2) (N := 12) hx hb hts hinX2 hown hK hP 0 rfl rfl 1 (by decide) (hts (.fieldLink RX2 7 "PuzzleBookModel" "store" "[I") (by decide +kernel)) (fun _ h9 => h9) rfl dX2_longOf_1 ?_
  refine lv_bipush (v := nI 64) hx hb dX2_longOf_4 (by decide +kernel) ?_
  refine lv_aload_n hx hb dX2_longOf_6 rfl (lv_at hl 0 rfl) ?_
  refine va_get (D := D) (ci := 3) (v := .ref m2) (C := RX2) (T := TX2) (N := 12) hx hb hts hinX2 hown hK hP 0 rfl rfl 6 (by decide) (hts (.fieldLink RX2 13 "PuzzleBookModel" "block" "[I") (by decide +kernel)) (fun _ h9 => h9) rfl dX2_longOf_7 ?_
  refine lv_iload_n hx hb dX2_longOf_10 rfl (lv_at hl 1 rfl) ?_
  refine ld_i (f := eb) (k := k) hx hb hK hP 2 1 rfl rfl (by omega) (by decide) dX2_longOf_11 ?_
  refine lv_as (y := nI (bO eb ec k)) (congrArg nI (bO_t (by omega)).symm) ?_
  refine lv_imul hx hb dX2_longOf_12 ?_
  refine lv_as (y := nI (64 * (bO eb ec k))) (pk_mul _ _) ?_
  refine lv_iconst (v := nI 2) hx hb dX2_longOf_13 (by decide +kernel) ?_
  refine lv_iadd hx hb dX2_longOf_14 ?_
  refine lv_as (y := nI ((64 * (bO eb ec k)) + 2)) (nI_add _ _) ?_
  refine ld_i (f := L.1) (k := (64 * (bO eb ec k)) + 2) hx hb hK hP 1 1 rfl rfl (by omega) (by decide) dX2_longOf_15 ?_
  exact rt_i hx hb hr hlocks dX2_longOf_16 rfl
set_option maxRecDepth 100000 in
set_option maxHeartbeats 4000000 in
/-- hasFed(e) -/
theorem c_X2_hasFed (l : Launch) (D : va_G) (m0 m1 m2 m3 m4 m5 : Nat) (cB cI : ClassId) (n : Nat) (L : Lg) (fd : Nat → Nat) (fc : Nat) (op : Nat) (tn : Nat) (eb : Nat → Nat) (ec : Nat) (th : Nat) (k : Nat) (hn : n ≤ 64) (hg : ∀ j, L.1 j < 256) (he : ec ≤ 40) (hE : ∀ k, bO eb ec k < n) (hk : k < ec) (hf : fc ≤ 48) (hd : ∀ i, fd i < 256) : Met l yX2_hasFed wsX2_hasFed ({ frames := 1, cells := 0, slots := 0, locals := 21 }) (rP [.ref m0, .int (nI k)] D (mW m0 m1 m2 m3 m4 m5 cB cI n L fd fc op tn eb ec th) (ty2 cB cI)) (vp_Si (fun r => r = nI (b01 (hF L.1 (bO eb ec k) fd fc)))) 0 0 (fun _ => False) := by
  refine met_r (by decide) rfl (Nat.le_of_ble_eq_true rfl) ?_
  intro p e s m below meth c hx hb hml hr hlocks hown hts hP hK ls hl
  have hown : s.vm.findClass RX2 = some m.cls := hown
  have hinX2 : ∀ w ∈ u_ws RX2 TX2 12, w ∈ wsX2_hasFed := by decide +kernel
  have hl : lv_has ls 3 [(0, .ref m0), (1, .int (nI k))] := hl
  refine lv_aload_n hx hb dX2_hasFed_0 rfl (lv_at hl 0 rfl) ?_
  refine lv_iload_n hx hb dX2_hasFed_1 rfl (lv_at hl 1 rfl) ?_
  refine rd_V (As := [.int (nI k)]) (rest := []) ⟨hx, hb, hml, hown, hts⟩ (c_X2_longOf l D m0 m1 m2 m3 m4 m5 cB cI n L fd fc op tn eb ec th k hn hg he hE hk) (cwV 1 hts gX2_hasFed_X2_longOf rfl rfl rfl (by decide +kernel) ⟨Nat.le_of_ble_eq_true rfl, Nat.le_of_ble_eq_true rfl⟩) hK hP [0, 1, 2, 3, 4, 5] rfl (ci := 3) rfl rfl (q0 := 0) rfl rfl hl.1 rfl (Nat.le_of_ble_eq_true rfl) dX2_hasFed_2 ⟨Nat.zero_le _, Nat.zero_le _⟩ (fun r1 hr1 => ?_)
  subst hr1
  have g9 := hg (64 * bO eb ec k + 2)
  refine lv_aload_n hx hb dX2_hasFed_5 rfl (lv_at hl 0 rfl) ?_
  refine va_get (D := D) (ci := 3) (v := .int (nI fc)) (C := RX2) (T := TX2) (N := 12) hx hb hts hinX2 hown hK hP 0 rfl rfl 8 (by decide) (hts (.fieldLink RX2 61 "PuzzleBookModel" "fedLong" "I") (by decide +kernel)) (fun _ h9 => h9) rfl dX2_hasFed_6 ?_
  refine jb_eq (tgt := 14) hx hb (nI_toInt (n := L.1 (64 * bO eb ec k + 2)) (by omega)) (nI_toInt (n := fc) (by omega)) dX2_hasFed_9 (by decide) (fun c2 => ?_) (fun c2 => ?_)
  · skip
    have hl9 : L.1 (64 * bO eb ec k + 2) = fc := Int.ofNat_inj.mp c2
    have loop : ∀ (fu i : Nat), i ≤ fc → fc - i < fu → (∀ j, j < i → L.1 (64 * bO eb ec k + (3 + j)) = fd j) → ∀ ls : Array Slot, lv_has ls 3 [(2, .int (nI i)), (0, .ref m0), (1, .int (nI k))] → W p l e ({ frames := 1, cells := 0, slots := 0, locals := 21 }) s m [.ref m0, .int (nI k)].toArray below meth c s.heap [] 0 0 (MQ below (vp_Si (fun r => r = nI (b01 (hF L.1 (bO eb ec k) fd fc)))) [.ref m0, .int (nI k)].toArray s 0 0 (fun _ => False)) (F0 m 16 ls []) := by
      intro fu
      induction fu with
      | zero => intro i hk hf; omega
      | succ fu ih =>
        intro i hi hfu hj ls hl
        refine lv_iload_n hx hb dX2_hasFed_16 rfl (lv_at hl 0 rfl) ?_
        refine lv_aload_n hx hb dX2_hasFed_17 rfl (lv_at hl 1 rfl) ?_
        refine va_get (D := D) (ci := 3) (v := .int (nI fc)) (C := RX2) (T := TX2) (N := 12) hx hb hts hinX2 hown hK hP 0 rfl rfl 8 (by decide) (hts (.fieldLink RX2 61 "PuzzleBookModel" "fedLong" "I") (by decide +kernel)) (fun _ h9 => h9) rfl dX2_hasFed_18 ?_
        refine jb_ge (tgt := 59) hx hb (nI_toInt (n := i) (by omega)) (nI_toInt (n := fc) (by omega)) dX2_hasFed_21 (by decide) (fun c3 => ?_) (fun c3 => ?_)
        · skip
          refine lv_iconst (v := nI 1) hx hb dX2_hasFed_59 (by decide +kernel) ?_
          have hk9 : fc = i := by omega
          subst hk9
          exact rt_z hx hb hr hlocks dX2_hasFed_60 (by decide +kernel) (by rw [b01_t ⟨hl9, hj⟩])
        · skip
          have e9 := hE k
          refine lv_aload_n hx hb dX2_hasFed_24 rfl (lv_at hl 1 rfl) ?_
          refine va_get (D := D) (ci := 3) (v := .ref m1) (C := RX2) (T := TX2) (N := 12) hx hb hts hinX2 hown hK hP 0 rfl rfl 1 (by decide) (hts (.fieldLink RX2 7 "PuzzleBookModel" "store" "[I") (by decide +kernel)) (fun _ h9 => h9) rfl dX2_hasFed_25 ?_
          refine lv_bipush (v := nI 64) hx hb dX2_hasFed_28 (by decide +kernel) ?_
          refine lv_aload_n hx hb dX2_hasFed_30 rfl (lv_at hl 1 rfl) ?_
          refine va_get (D := D) (ci := 3) (v := .ref m2) (C := RX2) (T := TX2) (N := 12) hx hb hts hinX2 hown hK hP 0 rfl rfl 6 (by decide) (hts (.fieldLink RX2 13 "PuzzleBookModel" "block" "[I") (by decide +kernel)) (fun _ h9 => h9) rfl dX2_hasFed_31 ?_
          refine lv_iload_n hx hb dX2_hasFed_34 rfl (lv_at hl 2 rfl) ?_
          refine ld_i (f := eb) (k := k) hx hb hK hP 2 1 rfl rfl (by omega) (by decide) dX2_hasFed_35 ?_
          refine lv_as (y := nI (bO eb ec k)) (congrArg nI (bO_t (by omega)).symm) ?_
          refine lv_imul hx hb dX2_hasFed_36 ?_
          refine lv_as (y := nI (64 * (bO eb ec k))) (pk_mul _ _) ?_
          refine lv_iconst (v := nI 3) hx hb dX2_hasFed_37 (by decide +kernel) ?_
          refine lv_iadd hx hb dX2_hasFed_38 ?_
          refine lv_as (y := nI ((64 * (bO eb ec k)) + 3)) (nI_add _ _) ?_
          refine lv_iload_n hx hb dX2_hasFed_39 rfl (lv_at hl 0 rfl) ?_
          refine lv_iadd hx hb dX2_hasFed_40 ?_
          refine lv_as (y := nI (((64 * (bO eb ec k)) + 3) + i)) (nI_add _ _) ?_
          refine lv_as (y := nI (64 * bO eb ec k + (3 + i))) (congrArg nI (by omega)) ?_
          refine ld_i (f := L.1) (k := 64 * bO eb ec k + (3 + i)) hx hb hK hP 1 1 rfl rfl (by omega) (by decide) dX2_hasFed_41 ?_
          have g8 := hg (64 * bO eb ec k + (3 + i))
          have d8 := hd i
          refine lv_aload_n hx hb dX2_hasFed_42 rfl (lv_at hl 1 rfl) ?_
          refine va_get (D := D) (ci := 3) (v := .ref m3) (C := RX2) (T := TX2) (N := 12) hx hb hts hinX2 hown hK hP 0 rfl rfl 7 (by decide) (hts (.fieldLink RX2 16 "PuzzleBookModel" "fed" "[I") (by decide +kernel)) (fun _ h9 => h9) rfl dX2_hasFed_43 ?_
          refine lv_iload_n hx hb dX2_hasFed_46 rfl (lv_at hl 0 rfl) ?_
          refine ld_i (f := fd) (k := i) hx hb hK hP 3 1 rfl rfl (by omega) (by decide) dX2_hasFed_47 ?_
          refine jb_eq (tgt := 53) hx hb (nI_toInt (n := L.1 (64 * bO eb ec k + (3 + i))) (by omega)) (nI_toInt (n := fd i) (by omega)) dX2_hasFed_48 (by decide) (fun c4 => ?_) (fun c4 => ?_)
          · skip
            refine lv_iinc (v := nI (i + 1)) (lv' := [(2, .int (nI (i + 1))), (0, .ref m0), (1, .int (nI k))]) hx hb dX2_hasFed_53 hl (k := 0) rfl (nI_add _ 1) (by decide) rfl (fun ls hl => ?_)
            refine lv_goto (tgt := 16) hx hb dX2_hasFed_56 (by decide) ?_
            exact ih (i + 1) (by omega) (by omega) (fun j q => (Nat.lt_or_eq_of_le (Nat.le_of_lt_succ q)).elim (hj j) (fun q => by rw [q]; exact Int.ofNat_inj.mp c4)) ls (lv_sub hl [0, 1, 2] rfl)
          · skip
            refine lv_iconst (v := nI 0) hx hb dX2_hasFed_51 (by decide +kernel) ?_
            exact rt_z hx hb hr hlocks dX2_hasFed_52 (by decide +kernel) (by rw [b01_f (fun h => c4 (by rw [h.2 i (by omega)]))])
    refine lv_iconst (v := nI 0) hx hb dX2_hasFed_14 (by decide +kernel) ?_
    refine lv_istore_n (lv' := [(2, .int (nI 0)), (0, .ref m0), (1, .int (nI k))]) hx hb dX2_hasFed_15 rfl hl (by decide) rfl (fun ls hl => ?_)
    exact loop (fc + 1) 0 (by omega) (by omega) (fun j q => absurd q (Nat.not_lt_zero j)) ls (lv_sub hl [0, 1, 2] rfl)
  · skip
    refine lv_iconst (v := nI 0) hx hb dX2_hasFed_12 (by decide +kernel) ?_
    exact rt_z hx hb hr hlocks dX2_hasFed_13 (by decide +kernel) (by rw [b01_f (fun h => c2 (by rw [h.1]))])
set_option maxRecDepth 100000 in
set_option maxHeartbeats 4000000 in
/-- isByte(b, i) -/
theorem c_X2_isByte (l : Launch) (D : va_G) (m0 m1 m2 m3 m4 m5 : Nat) (cB cI : ClassId) (n : Nat) (L : Lg) (fd : Nat → Nat) (fc : Nat) (op : Nat) (tn : Nat) (eb : Nat → Nat) (ec : Nat) (th : Nat) (bv iv : Int32) (bz iz : Int) (hn : n ≤ 64) (h1 : bv.toInt = bz) (h2 : iv.toInt = iz) : Met l yX2_isByte wsX2_isByte ({ frames := 0, cells := 0, slots := 0, locals := 0 }) (rP [.ref m0, .int bv, .int iv] D (mW m0 m1 m2 m3 m4 m5 cB cI n L fd fc op tn eb ec th) (ty2 cB cI)) (vp_Si (fun r => r = nI (b01 (0 ≤ bz ∧ bz < (n : Int) ∧ 0 ≤ iz ∧ iz < 64)))) 0 0 (fun _ => False) := by
  refine met_r (by decide) rfl (Nat.le_of_ble_eq_true rfl) ?_
  intro p e s m below meth c hx hb hml hr hlocks hown hts hP hK ls hl
  have hown : s.vm.findClass RX2 = some m.cls := hown
  have hinX2 : ∀ w ∈ u_ws RX2 TX2 12, w ∈ wsX2_isByte := by decide +kernel
  have hl : lv_has ls 3 [(0, .ref m0), (1, .int bv), (2, .int iv)] := hl
  refine lv_iload_n hx hb dX2_isByte_0 rfl (lv_at hl 1 rfl) ?_
  refine j0_lt (tgt := 26) hx hb h1 dX2_isByte_1 (by decide) (fun c1 => ?_) (fun c1 => ?_)
  · skip
    refine lv_iconst (v := nI 0) hx hb dX2_isByte_26 (by decide +kernel) ?_
    exact rt_z hx hb hr hlocks dX2_isByte_27 (by decide +kernel) (by rw [b01_f (by omega)])
  · skip
    refine lv_iload_n hx hb dX2_isByte_4 rfl (lv_at hl 1 rfl) ?_
    refine lv_aload_n hx hb dX2_isByte_5 rfl (lv_at hl 0 rfl) ?_
    refine va_get (D := D) (ci := 3) (v := .int (nI n)) (C := RX2) (T := TX2) (N := 12) hx hb hts hinX2 hown hK hP 0 rfl rfl 0 (by decide) (hts (.fieldLink RX2 25 "PuzzleBookModel" "blocks" "I") (by decide +kernel)) (fun _ h9 => h9) rfl dX2_isByte_6 ?_
    refine jb_ge (tgt := 26) hx hb h1 (nI_toInt (n := n) (by omega)) dX2_isByte_9 (by decide) (fun c2 => ?_) (fun c2 => ?_)
    · skip
      refine lv_iconst (v := nI 0) hx hb dX2_isByte_26 (by decide +kernel) ?_
      exact rt_z hx hb hr hlocks dX2_isByte_27 (by decide +kernel) (by rw [b01_f (by omega)])
    · skip
      refine lv_iload_n hx hb dX2_isByte_12 rfl (lv_at hl 2 rfl) ?_
      refine j0_lt (tgt := 26) hx hb h2 dX2_isByte_13 (by decide) (fun c3 => ?_) (fun c3 => ?_)
      · skip
        refine lv_iconst (v := nI 0) hx hb dX2_isByte_26 (by decide +kernel) ?_
        exact rt_z hx hb hr hlocks dX2_isByte_27 (by decide +kernel) (by rw [b01_f (by omega)])
      · skip
        refine lv_iload_n hx hb dX2_isByte_16 rfl (lv_at hl 2 rfl) ?_
        refine lv_bipush (v := nI 64) hx hb dX2_isByte_17 (by decide +kernel) ?_
        refine jb_ge (tgt := 26) hx hb h2 (nI_toInt (n := 64) (by decide)) dX2_isByte_19 (by decide) (fun c4 => ?_) (fun c4 => ?_)
        · skip
          refine lv_iconst (v := nI 0) hx hb dX2_isByte_26 (by decide +kernel) ?_
          exact rt_z hx hb hr hlocks dX2_isByte_27 (by decide +kernel) (by rw [b01_f (by omega)])
        · skip
          refine lv_iconst (v := nI 1) hx hb dX2_isByte_22 (by decide +kernel) ?_
          refine lv_goto (tgt := 27) hx hb dX2_isByte_23 (by decide) ?_
          exact rt_z hx hb hr hlocks dX2_isByte_27 (by decide +kernel) (by rw [b01_t (by omega)])
set_option maxRecDepth 100000 in
set_option maxHeartbeats 4000000 in
/-- entryIsRight(b) -/
theorem c_X2_entryIsRight (l : Launch) (D : va_G) (m0 m1 m2 m3 m4 m5 : Nat) (cB cI : ClassId) (n : Nat) (L : Lg) (fd : Nat → Nat) (fc : Nat) (op : Nat) (tn : Nat) (eb : Nat → Nat) (ec : Nat) (th : Nat) (bk : Nat) (hg : ∀ j, L.1 j < 256) (h1 : bk < 64) : Met l yX2_entryIsRight wsX2_entryIsRight ({ frames := 2, cells := 0, slots := 0, locals := 46 }) (rP [.ref m0, .int (nI bk)] D (mW m0 m1 m2 m3 m4 m5 cB cI n L fd fc op tn eb ec th) (ty2 cB cI)) (vp_Si (fun r => r = nI (b01 (¬ wrE L.1 bk)))) 0 0 (fun _ => False) := by
  refine met_r (by decide) rfl (Nat.le_of_ble_eq_true rfl) ?_
  intro p e s m below meth c hx hb hml hr hlocks hown hts hP hK ls hl
  have hown : s.vm.findClass RX2 = some m.cls := hown
  have hinX2 : ∀ w ∈ u_ws RX2 TX2 12, w ∈ wsX2_entryIsRight := by decide +kernel
  have hl : lv_has ls 3 [(0, .ref m0), (1, .int (nI bk))] := hl
  have g9 := hg (64 * bk + 2)
  refine lv_aload_n hx hb dX2_entryIsRight_0 rfl (lv_at hl 0 rfl) ?_
  refine va_get (D := D) (ci := 3) (v := .ref m1) (C := RX2) (T := TX2) (N := 12) hx hb hts hinX2 hown hK hP 0 rfl rfl 1 (by decide) (hts (.fieldLink RX2 7 "PuzzleBookModel" "store" "[I") (by decide +kernel)) (fun _ h9 => h9) rfl dX2_entryIsRight_1 ?_
  refine lv_bipush (v := nI 64) hx hb dX2_entryIsRight_4 (by decide +kernel) ?_
  refine lv_iload_n hx hb dX2_entryIsRight_6 rfl (lv_at hl 1 rfl) ?_
  refine lv_imul hx hb dX2_entryIsRight_7 ?_
  refine lv_as (y := nI (64 * bk)) (pk_mul _ _) ?_
  refine lv_iconst (v := nI 2) hx hb dX2_entryIsRight_8 (by decide +kernel) ?_
  refine lv_iadd hx hb dX2_entryIsRight_9 ?_
  refine lv_as (y := nI ((64 * bk) + 2)) (nI_add _ _) ?_
  refine ld_i (f := L.1) (k := (64 * bk) + 2) hx hb hK hP 1 1 rfl rfl (by omega) (by decide) dX2_entryIsRight_10 ?_
  refine lv_istore_n (lv' := [(2, .int (nI (L.1 ((64 * bk) + 2)))), (0, .ref m0), (1, .int (nI bk))]) hx hb dX2_entryIsRight_11 rfl hl (by decide) rfl (fun ls hl => ?_)
  refine lv_aload_n hx hb dX2_entryIsRight_12 rfl (lv_at hl 1 rfl) ?_
  refine lv_iload_n hx hb dX2_entryIsRight_13 rfl (lv_at hl 2 rfl) ?_
  refine rd_V (As := [.int (nI bk)]) (rest := []) ⟨hx, hb, hml, hown, hts⟩ (c_X2_isRight l D m0 m1 m2 m3 m4 m5 cB cI n L fd fc op tn eb ec th bk hg h1) (cwV 1 hts gX2_entryIsRight_X2_isRight rfl rfl rfl (by decide +kernel) ⟨Nat.le_of_ble_eq_true rfl, Nat.le_of_ble_eq_true rfl⟩) hK hP [0, 1, 2, 3, 4, 5] rfl (ci := 3) rfl rfl (q0 := 0) rfl rfl hl.1 rfl (Nat.le_of_ble_eq_true rfl) dX2_entryIsRight_14 ⟨Nat.zero_le _, Nat.zero_le _⟩ (fun r1 hr1 => ?_)
  subst hr1
  by_cases q2 : (okS L.1 (64 * bk))
  · skip
    refine lv_as (y := nI 1) (congrArg nI (b01_t q2)) ?_
    refine j0_eq (tgt := 35) hx hb (nI_toInt (n := 1) (by decide)) dX2_entryIsRight_17 (by decide) (fun c3 => absurd c3 (by omega)) (fun c3 => ?_)
    refine lv_iload_n hx hb dX2_entryIsRight_20 rfl (lv_at hl 0 rfl) ?_
    refine lv_iconst (v := nI 1) hx hb dX2_entryIsRight_21 (by decide +kernel) ?_
    refine jb_lt (tgt := 35) hx hb (nI_toInt (n := L.1 ((64 * bk) + 2)) (by omega)) (nI_toInt (n := 1) (by decide)) dX2_entryIsRight_22 (by decide) (fun c4 => ?_) (fun c4 => ?_)
    · skip
      refine lv_iconst (v := nI 0) hx hb dX2_entryIsRight_35 (by decide +kernel) ?_
      exact rt_z hx hb hr hlocks dX2_entryIsRight_36 (by decide +kernel) (by rw [b01_f (fun h => h (Or.inr (Or.inl (by omega))))])
    · skip
      refine lv_iload_n hx hb dX2_entryIsRight_25 rfl (lv_at hl 0 rfl) ?_
      refine lv_bipush (v := nI 48) hx hb dX2_entryIsRight_26 (by decide +kernel) ?_
      refine jb_gt (tgt := 35) hx hb (nI_toInt (n := L.1 ((64 * bk) + 2)) (by omega)) (nI_toInt (n := 48) (by decide)) dX2_entryIsRight_28 (by decide) (fun c5 => ?_) (fun c5 => ?_)
      · skip
        refine lv_iconst (v := nI 0) hx hb dX2_entryIsRight_35 (by decide +kernel) ?_
        exact rt_z hx hb hr hlocks dX2_entryIsRight_36 (by decide +kernel) (by rw [b01_f (fun h => h (Or.inr (Or.inr (by omega))))])
      · skip
        refine lv_iconst (v := nI 1) hx hb dX2_entryIsRight_31 (by decide +kernel) ?_
        refine lv_goto (tgt := 36) hx hb dX2_entryIsRight_32 (by decide) ?_
        exact rt_z hx hb hr hlocks dX2_entryIsRight_36 (by decide +kernel) (by rw [b01_t (fun h => h.elim (fun z => z q2) (fun z => by omega))])
  · skip
    refine lv_as (y := nI 0) (congrArg nI (b01_f q2)) ?_
    refine j0_eq (tgt := 35) hx hb (nI_toInt (n := 0) (by decide)) dX2_entryIsRight_17 (by decide) (fun c6 => ?_) (fun c6 => absurd c6 (by omega))
    refine lv_iconst (v := nI 0) hx hb dX2_entryIsRight_35 (by decide +kernel) ?_
    exact rt_z hx hb hr hlocks dX2_entryIsRight_36 (by decide +kernel) (by rw [b01_f (fun h => h (Or.inl q2))])
