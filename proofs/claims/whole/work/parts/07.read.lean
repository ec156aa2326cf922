/-! 07: PuzzleBook, its reads (laid by wip/whole/gen/gen_book.py) -/
theorem lw_none {P : Nat → Prop} {E : Nat → Nat} {k : Nat} (h : lwN P E k = 1000) (hp : P (E k)) (h64 : ∀ k, E k < 64) : nI (E k) = lwI (lwN P E (k + 1)) := by
  have := h64 k
  rw [lwN_t hp, h]
  unfold lwI
  rw [if_neg (by omega)]
  congr 1
  omega
theorem lw_some {P : Nat → Prop} {E : Nat → Nat} {k : Nat} (_ : ¬ lwN P E k = 1000) (hp : P (E k)) (h64 : ∀ k, E k < 64) : nI (min (lwN P E k) (E k)) = lwI (lwN P E (k + 1)) := by
  have := h64 k
  rw [lwN_t hp]
  unfold lwI
  rw [if_neg (by omega)]
theorem lw_skip {P : Nat → Prop} {E : Nat → Nat} {k : Nat} {sv : Int32} (hp : ¬ P (E k)) (hs : sv = lwI (lwN P E k)) : sv = lwI (lwN P E (k + 1)) := by
  rw [lwN_f hp]; exact hs
theorem nmO_lt {g : Nat → Nat} (hg : ∀ j, g j < 256) (b : Nat) : nmO g b < 65536 := by
  have h1 := hg (64 * b)
  have h2 := hg (64 * b + 1)
  unfold nmO
  omega
theorem fdF_t {g E : Nat → Nat} {nz iz : Int} {m : Nat} (hm : 0 < m) (h : ((nmO g (E (m - 1)) : Nat) : Int) = nz) : fdF g E nz iz m = rwB g (E (m - 1)) iz := by
  obtain ⟨j, rfl⟩ : ∃ j, m = j + 1 := ⟨m - 1, by omega⟩
  exact if_pos h
theorem fdF_f {g E : Nat → Nat} {nz iz : Int} {m : Nat} (hm : 0 < m) (h : ¬ ((nmO g (E (m - 1)) : Nat) : Int) = nz) : fdF g E nz iz m = fdF g E nz iz (m - 1) := by
  obtain ⟨j, rfl⟩ : ∃ j, m = j + 1 := ⟨m - 1, by omega⟩
  exact if_neg h
set_option maxRecDepth 100000 in
set_option maxHeartbeats 4000000 in
/-- isEntry(k) -/
theorem c_X1_isEntry (l : Launch) (D : va_G) (b0 b1 b2 a0 a1 a2 a3 : Nat) (cB cI : ClassId) (n : Nat) (L : Lg) (fd : Nat → Nat) (fc : Nat) (op : Nat) (tn : Nat) (eb : Nat → Nat) (ec : Nat) (kv : Int32) (kz : Int) (ho : op ≤ 1) (he : ec ≤ 40) (h1 : kv.toInt = kz) : Met l yX1_isEntry wsX1_isEntry ({ frames := 0, cells := 0, slots := 0, locals := 0 }) (rP [.ref b0, .int kv] D (bW b0 b1 b2 a0 a1 a2 a3 cB cI n L fd fc op tn eb ec) (ty2 cB cI)) (vp_Si (fun r => r = nI (b01 (op ≠ 0 ∧ 0 ≤ kz ∧ kz < ((ec : Nat) : Int))))) 0 0 (fun _ => False) := by
  refine met_r (by decide) rfl (Nat.le_of_ble_eq_true rfl) ?_
  intro p e s m below meth c hx hb hml hr hlocks hown hts hP hK ls hl
  have hown : s.vm.findClass RX1 = some m.cls := hown
  have hinX1 : ∀ w ∈ u_ws RX1 TX1 7, w ∈ wsX1_isEntry := by decide +kernel
  have hl : lv_has ls 2 [(0, .ref b0), (1, .int kv)] := hl
  refine lv_aload_n hx hb dX1_isEntry_0 rfl (lv_at hl 0 rfl) ?_
  refine va_get (D := D) (ci := 2) (v := .int (nI op)) (C := RX1) (T := TX1) (N := 7) hx hb hts hinX1 hown hK hP 0 rfl rfl 3 (by decide) (hts (.fieldLink RX1 45 "PuzzleBook" "isOpen" "Z") (by decide +kernel)) (fun _ h9 => h9) rfl dX1_isEntry_1 ?_
  refine j0_eq (tgt := 23) hx hb (nI_toInt (n := op) (by omega)) dX1_isEntry_4 (by decide) (fun c1 => ?_) (fun c1 => ?_)
  · skip
    refine lv_iconst (v := nI 0) hx hb dX1_isEntry_23 (by decide +kernel) ?_
    exact rt_z hx hb hr hlocks dX1_isEntry_24 (by decide +kernel) (by rw [b01_f (by omega)])
  · skip
    refine lv_iload_n hx hb dX1_isEntry_7 rfl (lv_at hl 1 rfl) ?_
    refine j0_lt (tgt := 23) hx hb h1 dX1_isEntry_8 (by decide) (fun c2 => ?_) (fun c2 => ?_)
    · skip
      refine lv_iconst (v := nI 0) hx hb dX1_isEntry_23 (by decide +kernel) ?_
      exact rt_z hx hb hr hlocks dX1_isEntry_24 (by decide +kernel) (by rw [b01_f (by omega)])
    · skip
      refine lv_iload_n hx hb dX1_isEntry_11 rfl (lv_at hl 1 rfl) ?_
      refine lv_aload_n hx hb dX1_isEntry_12 rfl (lv_at hl 0 rfl) ?_
      refine va_get (D := D) (ci := 2) (v := .int (nI ec)) (C := RX1) (T := TX1) (N := 7) hx hb hts hinX1 hown hK hP 0 rfl rfl 6 (by decide) (hts (.fieldLink RX1 20 "PuzzleBook" "entryCount" "I") (by decide +kernel)) (fun _ h9 => h9) rfl dX1_isEntry_13 ?_
      refine jb_ge (tgt := 23) hx hb h1 (nI_toInt (n := ec) (by omega)) dX1_isEntry_16 (by decide) (fun c3 => ?_) (fun c3 => ?_)
      · skip
        refine lv_iconst (v := nI 0) hx hb dX1_isEntry_23 (by decide +kernel) ?_
        exact rt_z hx hb hr hlocks dX1_isEntry_24 (by decide +kernel) (by rw [b01_f (by omega)])
      · skip
        refine lv_iconst (v := nI 1) hx hb dX1_isEntry_19 (by decide +kernel) ?_
        refine lv_goto (tgt := 24) hx hb dX1_isEntry_20 (by decide) ?_
        exact rt_z hx hb hr hlocks dX1_isEntry_24 (by decide +kernel) (by rw [b01_t (by omega)])
set_option maxRecDepth 100000 in
set_option maxHeartbeats 4000000 in
/-- blockOf(k) -/
theorem c_X1_blockOf (l : Launch) (D : va_G) (b0 b1 b2 a0 a1 a2 a3 : Nat) (cB cI : ClassId) (n : Nat) (L : Lg) (fd : Nat → Nat) (fc : Nat) (op : Nat) (tn : Nat) (eb : Nat → Nat) (ec : Nat) (k : Nat) (hm : ec ≤ 40) (hk : k < 2 ^ 31) : Met l yX1_blockOf wsX1_blockOf ({ frames := 0, cells := 0, slots := 0, locals := 0 }) (rP [.ref b0, .int (nI k)] D (bW b0 b1 b2 a0 a1 a2 a3 cB cI n L fd fc op tn eb ec) (ty2 cB cI)) (vp_Si (fun r => r = nI (bO eb ec k))) 0 0 (fun _ => False) := by
  refine met_r (by decide) rfl (Nat.le_of_ble_eq_true rfl) ?_
  intro p e s m below meth c hx hb hml hr hlocks hown hts hP hK ls hl
  have hown : s.vm.findClass RX1 = some m.cls := hown
  have hinX1 : ∀ w ∈ u_ws RX1 TX1 7, w ∈ wsX1_blockOf := by decide +kernel
  have hl : lv_has ls 2 [(0, .ref b0), (1, .int (nI k))] := hl
  refine lv_iload_n hx hb dX1_blockOf_0 rfl (lv_at hl 1 rfl) ?_
  refine j0_lt (tgt := 30) hx hb (nI_toInt (n := k) (by omega)) dX1_blockOf_1 (by decide) (fun c1 => absurd c1 (by omega)) (fun c1 => ?_)
  refine lv_iload_n hx hb dX1_blockOf_4 rfl (lv_at hl 1 rfl) ?_
  refine lv_aload_n hx hb dX1_blockOf_5 rfl (lv_at hl 0 rfl) ?_
  refine va_get (D := D) (ci := 2) (v := .int (nI ec)) (C := RX1) (T := TX1) (N := 7) hx hb hts hinX1 hown hK hP 0 rfl rfl 6 (by decide) (hts (.fieldLink RX1 20 "PuzzleBook" "entryCount" "I") (by decide +kernel)) (fun _ h9 => h9) rfl dX1_blockOf_6 ?_
  refine jb_ge (tgt := 30) hx hb (nI_toInt (n := k) (by omega)) (nI_toInt (n := ec) (by omega)) dX1_blockOf_9 (by decide) (fun c2 => ?_) (fun c2 => ?_)
  · skip
    refine lv_iconst (v := nI 0) hx hb dX1_blockOf_30 (by decide +kernel) ?_
    exact rt_i hx hb hr hlocks dX1_blockOf_31 (by rw [bO_f (by omega)])
  · skip
    refine lv_iload_n hx hb dX1_blockOf_12 rfl (lv_at hl 1 rfl) ?_
    refine lv_aload_n hx hb dX1_blockOf_13 rfl (lv_at hl 0 rfl) ?_
    refine va_get (D := D) (ci := 2) (v := .ref b2) (C := RX1) (T := TX1) (N := 7) hx hb hts hinX1 hown hK hP 0 rfl rfl 5 (by decide) (hts (.fieldLink RX1 17 "PuzzleBook" "entryBlocks" "[I") (by decide +kernel)) (fun _ h9 => h9) rfl dX1_blockOf_14 ?_
    refine al_i hx hb hK hP 2 1 rfl rfl dX1_blockOf_17 ?_
    refine jb_ge (tgt := 30) hx hb (nI_toInt (n := k) (by omega)) (nI_toInt (n := 40) (by decide)) dX1_blockOf_18 (by decide) (fun c3 => absurd c3 (by omega)) (fun c3 => ?_)
    refine lv_aload_n hx hb dX1_blockOf_21 rfl (lv_at hl 0 rfl) ?_
    refine va_get (D := D) (ci := 2) (v := .ref b2) (C := RX1) (T := TX1) (N := 7) hx hb hts hinX1 hown hK hP 0 rfl rfl 5 (by decide) (hts (.fieldLink RX1 17 "PuzzleBook" "entryBlocks" "[I") (by decide +kernel)) (fun _ h9 => h9) rfl dX1_blockOf_22 ?_
    refine lv_iload_n hx hb dX1_blockOf_25 rfl (lv_at hl 1 rfl) ?_
    refine ld_i (f := eb) (k := k) hx hb hK hP 2 1 rfl rfl (by omega) (by decide) dX1_blockOf_26 ?_
    refine lv_goto (tgt := 31) hx hb dX1_blockOf_27 (by decide) ?_
    exact rt_i hx hb hr hlocks dX1_blockOf_31 (by rw [bO_t (by omega)])
set_option maxRecDepth 100000 in
set_option maxHeartbeats 4000000 in
/-- fedByte(k) -/
theorem c_X1_fedByte (l : Launch) (D : va_G) (b0 b1 b2 a0 a1 a2 a3 : Nat) (cB cI : ClassId) (n : Nat) (L : Lg) (fd : Nat → Nat) (fc : Nat) (op : Nat) (tn : Nat) (eb : Nat → Nat) (ec : Nat) (k : Nat) (hm : fc ≤ 48) (hk : k < 2 ^ 31) : Met l yX1_fedByte wsX1_fedByte ({ frames := 0, cells := 0, slots := 0, locals := 0 }) (rP [.ref b0, .int (nI k)] D (bW b0 b1 b2 a0 a1 a2 a3 cB cI n L fd fc op tn eb ec) (ty2 cB cI)) (vp_Si (fun r => r = nI (bO fd fc k))) 0 0 (fun _ => False) := by
  refine met_r (by decide) rfl (Nat.le_of_ble_eq_true rfl) ?_
  intro p e s m below meth c hx hb hml hr hlocks hown hts hP hK ls hl
  have hown : s.vm.findClass RX1 = some m.cls := hown
  have hinX1 : ∀ w ∈ u_ws RX1 TX1 7, w ∈ wsX1_fedByte := by decide +kernel
  have hl : lv_has ls 2 [(0, .ref b0), (1, .int (nI k))] := hl
  refine lv_iload_n hx hb dX1_fedByte_0 rfl (lv_at hl 1 rfl) ?_
  refine j0_lt (tgt := 30) hx hb (nI_toInt (n := k) (by omega)) dX1_fedByte_1 (by decide) (fun c1 => absurd c1 (by omega)) (fun c1 => ?_)
  refine lv_iload_n hx hb dX1_fedByte_4 rfl (lv_at hl 1 rfl) ?_
  refine lv_aload_n hx hb dX1_fedByte_5 rfl (lv_at hl 0 rfl) ?_
  refine va_get (D := D) (ci := 2) (v := .int (nI fc)) (C := RX1) (T := TX1) (N := 7) hx hb hts hinX1 hown hK hP 0 rfl rfl 2 (by decide) (hts (.fieldLink RX1 13 "PuzzleBook" "fedCount" "I") (by decide +kernel)) (fun _ h9 => h9) rfl dX1_fedByte_6 ?_
  refine jb_ge (tgt := 30) hx hb (nI_toInt (n := k) (by omega)) (nI_toInt (n := fc) (by omega)) dX1_fedByte_9 (by decide) (fun c2 => ?_) (fun c2 => ?_)
  · skip
    refine lv_iconst (v := nI 0) hx hb dX1_fedByte_30 (by decide +kernel) ?_
    exact rt_i hx hb hr hlocks dX1_fedByte_31 (by rw [bO_f (by omega)])
  · skip
    refine lv_iload_n hx hb dX1_fedByte_12 rfl (lv_at hl 1 rfl) ?_
    refine lv_aload_n hx hb dX1_fedByte_13 rfl (lv_at hl 0 rfl) ?_
    refine va_get (D := D) (ci := 2) (v := .ref b1) (C := RX1) (T := TX1) (N := 7) hx hb hts hinX1 hown hK hP 0 rfl rfl 1 (by decide) (hts (.fieldLink RX1 9 "PuzzleBook" "fedBytes" "[I") (by decide +kernel)) (fun _ h9 => h9) rfl dX1_fedByte_14 ?_
    refine al_i hx hb hK hP 1 1 rfl rfl dX1_fedByte_17 ?_
    refine jb_ge (tgt := 30) hx hb (nI_toInt (n := k) (by omega)) (nI_toInt (n := 48) (by decide)) dX1_fedByte_18 (by decide) (fun c3 => absurd c3 (by omega)) (fun c3 => ?_)
    refine lv_aload_n hx hb dX1_fedByte_21 rfl (lv_at hl 0 rfl) ?_
    refine va_get (D := D) (ci := 2) (v := .ref b1) (C := RX1) (T := TX1) (N := 7) hx hb hts hinX1 hown hK hP 0 rfl rfl 1 (by decide) (hts (.fieldLink RX1 9 "PuzzleBook" "fedBytes" "[I") (by decide +kernel)) (fun _ h9 => h9) rfl dX1_fedByte_22 ?_
    refine lv_iload_n hx hb dX1_fedByte_25 rfl (lv_at hl 1 rfl) ?_
    refine ld_i (f := fd) (k := k) hx hb hK hP 1 1 rfl rfl (by omega) (by decide) dX1_fedByte_26 ?_
    refine lv_goto (tgt := 31) hx hb dX1_fedByte_27 (by decide) ?_
    exact rt_i hx hb hr hlocks dX1_fedByte_31 (by rw [bO_t (by omega)])
set_option maxRecDepth 100000 in
set_option maxHeartbeats 4000000 in
/-- nameOf(k) -/
theorem c_X1_nameOf (l : Launch) (D : va_G) (b0 b1 b2 a0 a1 a2 a3 : Nat) (cB cI : ClassId) (n : Nat) (L : Lg) (fd : Nat → Nat) (fc : Nat) (op : Nat) (tn : Nat) (eb : Nat → Nat) (ec : Nat) (k : Nat) (hn : n ≤ 64) (hg : ∀ j, L.1 j < 256) (he : ec ≤ 40) (hE : ∀ k, bO eb ec k < n) (hk : k < 2 ^ 31) : Met l yX1_nameOf wsX1_nameOf ({ frames := 2, cells := 0, slots := 0, locals := 44 }) (rP [.ref b0, .int (nI k)] D (bW b0 b1 b2 a0 a1 a2 a3 cB cI n L fd fc op tn eb ec) (ty2 cB cI)) (vp_Si (fun r => r = nI (nmO L.1 (bO eb ec k)))) 0 0 (fun _ => False) := by
  refine met_r (by decide) rfl (Nat.le_of_ble_eq_true rfl) ?_
  intro p e s m below meth c hx hb hml hr hlocks hown hts hP hK ls hl
  have hown : s.vm.findClass RX1 = some m.cls := hown
  have hinX1 : ∀ w ∈ u_ws RX1 TX1 7, w ∈ wsX1_nameOf := by decide +kernel
  have hinX0 : ∀ w ∈ u_ws RX0 TX0 5, w ∈ wsX1_nameOf := by decide +kernel
  have hl : lv_has ls 3 [(0, .ref b0), (1, .int (nI k))] := hl
  refine lv_aload_n hx hb dX1_nameOf_0 rfl (lv_at hl 0 rfl) ?_
  refine lv_iload_n hx hb dX1_nameOf_1 rfl (lv_at hl 1 rfl) ?_
  refine rd_V (As := [.int (nI k)]) (rest := []) ⟨hx, hb, hml, hown, hts⟩ (c_X1_blockOf l D b0 b1 b2 a0 a1 a2 a3 cB cI n L fd fc op tn eb ec k he (by omega)) (cwV 1 hts gX1_nameOf_X1_blockOf rfl rfl rfl (by decide +kernel) ⟨Nat.le_of_ble_eq_true rfl, Nat.le_of_ble_eq_true rfl⟩) hK hP [0, 1, 2, 3, 4, 5, 6] rfl (ci := 2) rfl rfl (q0 := 0) rfl rfl hl.1 rfl (Nat.le_of_ble_eq_true rfl) dX1_nameOf_2 ⟨Nat.zero_le _, Nat.zero_le _⟩ (fun r1 hr1 => ?_)
  subst hr1
  refine lv_istore_n (lv' := [(2, .int (nI (bO eb ec k))), (0, .ref b0), (1, .int (nI k))]) hx hb dX1_nameOf_5 rfl hl (by decide) rfl (fun ls hl => ?_)
  refine lv_aload_n hx hb dX1_nameOf_6 rfl (lv_at hl 1 rfl) ?_
  refine va_get (D := D) (ci := 2) (v := .ref a0) (C := RX1) (T := TX1) (N := 7) hx hb hts hinX1 hown hK hP 0 rfl rfl 0 (by decide) (hts (.fieldLink RX1 28 "PuzzleBook" "store" "LPuzzleBook$Store;") (by decide +kernel)) (fun _ h9 => h9) rfl dX1_nameOf_7 ?_
  refine lv_iload_n hx hb dX1_nameOf_10 rfl (lv_at hl 0 rfl) ?_
  refine lv_iconst (v := nI 0) hx hb dX1_nameOf_11 (by decide +kernel) ?_
  refine rd_V (As := [.int (nI (bO eb ec k)), .int (nI 0)]) (rest := []) ⟨hx, hb, hml, hown, hts⟩ (c_X0_read l D a0 a1 a2 a3 cB cI n L (bO eb ec k) 0 hn hg (hE _) (by omega)) (cwV 2 hts gX1_nameOf_X0_read rfl rfl rfl (by decide +kernel) ⟨Nat.le_of_ble_eq_true rfl, Nat.le_of_ble_eq_true rfl⟩) hK hP [3, 4, 5, 6] rfl (ci := 1) rfl rfl (q0 := 3) rfl rfl hl.1 rfl (Nat.le_of_ble_eq_true rfl) dX1_nameOf_12 ⟨Nat.zero_le _, Nat.zero_le _⟩ (fun r2 hr2 => ?_)
  subst hr2
  refine lv_aload_n hx hb dX1_nameOf_15 rfl (lv_at hl 1 rfl) ?_
  refine va_get (D := D) (ci := 2) (v := .ref a0) (C := RX1) (T := TX1) (N := 7) hx hb hts hinX1 hown hK hP 0 rfl rfl 0 (by decide) (hts (.fieldLink RX1 28 "PuzzleBook" "store" "LPuzzleBook$Store;") (by decide +kernel)) (fun _ h9 => h9) rfl dX1_nameOf_16 ?_
  refine lv_iload_n hx hb dX1_nameOf_19 rfl (lv_at hl 0 rfl) ?_
  refine lv_iconst (v := nI 1) hx hb dX1_nameOf_20 (by decide +kernel) ?_
  refine rd_V (As := [.int (nI (bO eb ec k)), .int (nI 1)]) (rest := [.int (nI (L.1 (64 * (bO eb ec k) + 0)))]) ⟨hx, hb, hml, hown, hts⟩ (c_X0_read l D a0 a1 a2 a3 cB cI n L (bO eb ec k) 1 hn hg (hE _) (by omega)) (cwV 2 hts gX1_nameOf_X0_read rfl rfl rfl (by decide +kernel) ⟨Nat.le_of_ble_eq_true rfl, Nat.le_of_ble_eq_true rfl⟩) hK hP [3, 4, 5, 6] rfl (ci := 1) rfl rfl (q0 := 3) rfl rfl hl.1 rfl (Nat.le_of_ble_eq_true rfl) dX1_nameOf_21 ⟨Nat.zero_le _, Nat.zero_le _⟩ (fun r3 hr3 => ?_)
  subst hr3
  refine lv_bipush (v := nI 8) hx hb dX1_nameOf_24 (by decide +kernel) ?_
  refine lv_ishl hx hb dX1_nameOf_26 ?_
  refine lv_ior hx hb dX1_nameOf_27 ?_
  exact rt_i hx hb hr hlocks dX1_nameOf_28 (nm_or (hg _) (hg _))
set_option maxRecDepth 100000 in
set_option maxHeartbeats 4000000 in
/-- lengthOf(k) -/
theorem c_X1_lengthOf (l : Launch) (D : va_G) (b0 b1 b2 a0 a1 a2 a3 : Nat) (cB cI : ClassId) (n : Nat) (L : Lg) (fd : Nat → Nat) (fc : Nat) (op : Nat) (tn : Nat) (eb : Nat → Nat) (ec : Nat) (k : Nat) (hn : n ≤ 64) (hg : ∀ j, L.1 j < 256) (he : ec ≤ 40) (hE : ∀ k, bO eb ec k < n) (hk : k < 2 ^ 31) : Met l yX1_lengthOf wsX1_lengthOf ({ frames := 2, cells := 0, slots := 0, locals := 44 }) (rP [.ref b0, .int (nI k)] D (bW b0 b1 b2 a0 a1 a2 a3 cB cI n L fd fc op tn eb ec) (ty2 cB cI)) (vp_Si (fun r => r = nI (L.1 (64 * bO eb ec k + 2)))) 0 0 (fun _ => False) := by
  refine met_r (by decide) rfl (Nat.le_of_ble_eq_true rfl) ?_
  intro p e s m below meth c hx hb hml hr hlocks hown hts hP hK ls hl
  have hown : s.vm.findClass RX1 = some m.cls := hown
  have hinX1 : ∀ w ∈ u_ws RX1 TX1 7, w ∈ wsX1_lengthOf := by decide +kernel
  have hinX0 : ∀ w ∈ u_ws RX0 TX0 5, w ∈ wsX1_lengthOf := by decide +kernel
  have hl : lv_has ls 2 [(0, .ref b0), (1, .int (nI k))] := hl
  refine lv_aload_n hx hb dX1_lengthOf_0 rfl (lv_at hl 0 rfl) ?_
  refine va_get (D := D) (ci := 2) (v := .ref a0) (C := RX1) (T := TX1) (N := 7) hx hb hts hinX1 hown hK hP 0 rfl rfl 0 (by decide) (hts (.fieldLink RX1 28 "PuzzleBook" "store" "LPuzzleBook$Store;") (by decide +kernel)) (fun _ h9 => h9) rfl dX1_lengthOf_1 ?_
  refine lv_aload_n hx hb dX1_lengthOf_4 rfl (lv_at hl 0 rfl) ?_
  refine lv_iload_n hx hb dX1_lengthOf_5 rfl (lv_at hl 1 rfl) ?_
  refine rd_V (As := [.int (nI k)]) (rest := [.ref a0]) ⟨hx, hb, hml, hown, hts⟩ (c_X1_blockOf l D b0 b1 b2 a0 a1 a2 a3 cB cI n L fd fc op tn eb ec k he (by omega)) (cwV 1 hts gX1_lengthOf_X1_blockOf rfl rfl rfl (by decide +kernel) ⟨Nat.le_of_ble_eq_true rfl, Nat.le_of_ble_eq_true rfl⟩) hK hP [0, 1, 2, 3, 4, 5, 6] rfl (ci := 2) rfl rfl (q0 := 0) rfl rfl hl.1 rfl (Nat.le_of_ble_eq_true rfl) dX1_lengthOf_6 ⟨Nat.zero_le _, Nat.zero_le _⟩ (fun r1 hr1 => ?_)
  subst hr1
  refine lv_iconst (v := nI 2) hx hb dX1_lengthOf_9 (by decide +kernel) ?_
  refine rd_V (As := [.int (nI (bO eb ec k)), .int (nI 2)]) (rest := []) ⟨hx, hb, hml, hown, hts⟩ (c_X0_read l D a0 a1 a2 a3 cB cI n L (bO eb ec k) 2 hn hg (hE _) (by omega)) (cwV 2 hts gX1_lengthOf_X0_read rfl rfl rfl (by decide +kernel) ⟨Nat.le_of_ble_eq_true rfl, Nat.le_of_ble_eq_true rfl⟩) hK hP [3, 4, 5, 6] rfl (ci := 1) rfl rfl (q0 := 3) rfl rfl hl.1 rfl (Nat.le_of_ble_eq_true rfl) dX1_lengthOf_10 ⟨Nat.zero_le _, Nat.zero_le _⟩ (fun r2 hr2 => ?_)
  subst hr2
  exact rt_i hx hb hr hlocks dX1_lengthOf_13 rfl
set_option maxRecDepth 100000 in
set_option maxHeartbeats 4000000 in
/-- rowByte(k, i) -/
theorem c_X1_rowByte (l : Launch) (D : va_G) (b0 b1 b2 a0 a1 a2 a3 : Nat) (cB cI : ClassId) (n : Nat) (L : Lg) (fd : Nat → Nat) (fc : Nat) (op : Nat) (tn : Nat) (eb : Nat → Nat) (ec : Nat) (k : Nat) (iv : Int32) (iz : Int) (hn : n ≤ 64) (hg : ∀ j, L.1 j < 256) (he : ec ≤ 40) (hE : ∀ k, bO eb ec k < n) (hk : k < 2 ^ 31) (h1 : iv.toInt = iz) : Met l yX1_rowByte wsX1_rowByte ({ frames := 3, cells := 0, slots := 0, locals := 65 }) (rP [.ref b0, .int (nI k), .int iv] D (bW b0 b1 b2 a0 a1 a2 a3 cB cI n L fd fc op tn eb ec) (ty2 cB cI)) (vp_Si (fun r => r = rwB L.1 (bO eb ec k) iz)) 0 0 (fun _ => False) := by
  refine met_r (by decide) rfl (Nat.le_of_ble_eq_true rfl) ?_
  intro p e s m below meth c hx hb hml hr hlocks hown hts hP hK ls hl
  have hown : s.vm.findClass RX1 = some m.cls := hown
  have hinX1 : ∀ w ∈ u_ws RX1 TX1 7, w ∈ wsX1_rowByte := by decide +kernel
  have hinX0 : ∀ w ∈ u_ws RX0 TX0 5, w ∈ wsX1_rowByte := by decide +kernel
  have hl : lv_has ls 4 [(0, .ref b0), (1, .int (nI k)), (2, .int iv)] := hl
  refine lv_aload_n hx hb dX1_rowByte_0 rfl (lv_at hl 0 rfl) ?_
  refine lv_iload_n hx hb dX1_rowByte_1 rfl (lv_at hl 1 rfl) ?_
  refine rd_V (As := [.int (nI k)]) (rest := []) ⟨hx, hb, hml, hown, hts⟩ (c_X1_lengthOf l D b0 b1 b2 a0 a1 a2 a3 cB cI n L fd fc op tn eb ec k hn hg he hE hk) (cwV 1 hts gX1_rowByte_X1_lengthOf rfl rfl rfl (by decide +kernel) ⟨Nat.le_of_ble_eq_true rfl, Nat.le_of_ble_eq_true rfl⟩) hK hP [0, 1, 2, 3, 4, 5, 6] rfl (ci := 2) rfl rfl (q0 := 0) rfl rfl hl.1 rfl (Nat.le_of_ble_eq_true rfl) dX1_rowByte_2 ⟨Nat.zero_le _, Nat.zero_le _⟩ (fun r1 hr1 => ?_)
  subst hr1
  have g9 := hg (64 * bO eb ec k + 2)
  refine lv_bipush (v := nI 48) hx hb dX1_rowByte_5 (by decide +kernel) ?_
  refine va_mmin hx hb (hml.trans hl.1.symm) hown (hts (.methodLink RX1 123 Lib.Math.min.name) (by decide +kernel)) (hts (.static Lib.Math.min.name) (by decide +kernel)) (hts (.initialized "java/lang/Math") (by decide +kernel)) (hts (.code Lib.Math.min.name Lib.Math.min.code 2 (some .int)) (by decide +kernel)) (Nat.le_of_ble_eq_true rfl) (Nat.le_of_ble_eq_true rfl) (Nat.zero_le _) (Nat.zero_le _) dX1_rowByte_7 ?_
  refine lv_as (y := nI (min (L.1 (64 * bO eb ec k + 2)) 48)) (nI_min (by omega) (by omega)) ?_
  refine lv_istore_n (lv' := [(3, .int (nI (min (L.1 (64 * bO eb ec k + 2)) 48))), (0, .ref b0), (1, .int (nI k)), (2, .int iv)]) hx hb dX1_rowByte_10 rfl hl (by decide) rfl (fun ls hl => ?_)
  refine lv_iload_n hx hb dX1_rowByte_11 rfl (lv_at hl 3 rfl) ?_
  refine j0_lt (tgt := 38) hx hb h1 dX1_rowByte_12 (by decide) (fun c2 => ?_) (fun c2 => ?_)
  · skip
    refine lv_iconst (v := -1) hx hb dX1_rowByte_38 (by decide +kernel) ?_
    exact rt_i hx hb hr hlocks dX1_rowByte_39 (by unfold rwB; rw [if_neg (by omega)])
  · skip
    refine lv_iload_n hx hb dX1_rowByte_15 rfl (lv_at hl 3 rfl) ?_
    refine lv_iload_n hx hb dX1_rowByte_16 rfl (lv_at hl 0 rfl) ?_
    refine jb_ge (tgt := 38) hx hb h1 (nI_toInt (n := min (L.1 (64 * bO eb ec k + 2)) 48) (by omega)) dX1_rowByte_17 (by decide) (fun c3 => ?_) (fun c3 => ?_)
    · skip
      refine lv_iconst (v := -1) hx hb dX1_rowByte_38 (by decide +kernel) ?_
      exact rt_i hx hb hr hlocks dX1_rowByte_39 (by unfold rwB; rw [if_neg (by omega)])
    · skip
      obtain ⟨j, hj⟩ : ∃ j : Nat, iz = (j : Int) := ⟨iz.toNat, by omega⟩
      have hj2 : iv = nI j := Int32.toInt_inj.mp (by rw [h1, hj, nI_toInt (by omega)])
      refine lv_aload_n hx hb dX1_rowByte_20 rfl (lv_at hl 1 rfl) ?_
      refine va_get (D := D) (ci := 2) (v := .ref a0) (C := RX1) (T := TX1) (N := 7) hx hb hts hinX1 hown hK hP 0 rfl rfl 0 (by decide) (hts (.fieldLink RX1 28 "PuzzleBook" "store" "LPuzzleBook$Store;") (by decide +kernel)) (fun _ h9 => h9) rfl dX1_rowByte_21 ?_
      refine lv_aload_n hx hb dX1_rowByte_24 rfl (lv_at hl 1 rfl) ?_
      refine lv_iload_n hx hb dX1_rowByte_25 rfl (lv_at hl 2 rfl) ?_
      refine rd_V (As := [.int (nI k)]) (rest := [.ref a0]) ⟨hx, hb, hml, hown, hts⟩ (c_X1_blockOf l D b0 b1 b2 a0 a1 a2 a3 cB cI n L fd fc op tn eb ec k he (by omega)) (cwV 1 hts gX1_rowByte_X1_blockOf rfl rfl rfl (by decide +kernel) ⟨Nat.le_of_ble_eq_true rfl, Nat.le_of_ble_eq_true rfl⟩) hK hP [0, 1, 2, 3, 4, 5, 6] rfl (ci := 2) rfl rfl (q0 := 0) rfl rfl hl.1 rfl (Nat.le_of_ble_eq_true rfl) dX1_rowByte_26 ⟨Nat.zero_le _, Nat.zero_le _⟩ (fun r4 hr4 => ?_)
      subst hr4
      refine lv_iconst (v := nI 3) hx hb dX1_rowByte_29 (by decide +kernel) ?_
      refine lv_iload_n hx hb dX1_rowByte_30 rfl (lv_at hl 3 rfl) ?_
      refine lv_as (y := nI j) hj2 ?_
      refine lv_iadd hx hb dX1_rowByte_31 ?_
      refine lv_as (y := nI (3 + j)) (nI_add _ _) ?_
      refine rd_V (As := [.int (nI (bO eb ec k)), .int (nI (3 + j))]) (rest := []) ⟨hx, hb, hml, hown, hts⟩ (c_X0_read l D a0 a1 a2 a3 cB cI n L (bO eb ec k) (3 + j) hn hg (hE _) (by omega)) (cwV 2 hts gX1_rowByte_X0_read rfl rfl rfl (by decide +kernel) ⟨Nat.le_of_ble_eq_true rfl, Nat.le_of_ble_eq_true rfl⟩) hK hP [3, 4, 5, 6] rfl (ci := 1) rfl rfl (q0 := 3) rfl rfl hl.1 rfl (Nat.le_of_ble_eq_true rfl) dX1_rowByte_32 ⟨Nat.zero_le _, Nat.zero_le _⟩ (fun r5 hr5 => ?_)
      subst hr5
      refine lv_goto (tgt := 39) hx hb dX1_rowByte_35 (by decide) ?_
      exact rt_i hx hb hr hlocks dX1_rowByte_39 (by unfold rwB; rw [if_pos (by omega), hj]; rfl)
set_option maxRecDepth 100000 in
set_option maxHeartbeats 4000000 in
/-- hasFedRow(k) -/
theorem c_X1_hasFedRow (l : Launch) (D : va_G) (b0 b1 b2 a0 a1 a2 a3 : Nat) (cB cI : ClassId) (n : Nat) (L : Lg) (fd : Nat → Nat) (fc : Nat) (op : Nat) (tn : Nat) (eb : Nat → Nat) (ec : Nat) (k : Nat) (hn : n ≤ 64) (hg : ∀ j, L.1 j < 256) (he : ec ≤ 40) (hE : ∀ k, bO eb ec k < n) (hk : k < 2 ^ 31) (hf : fc ≤ 48) (hd : ∀ i, fd i < 256) : Met l yX1_hasFedRow wsX1_hasFedRow ({ frames := 4, cells := 0, slots := 0, locals := 88 }) (rP [.ref b0, .int (nI k)] D (bW b0 b1 b2 a0 a1 a2 a3 cB cI n L fd fc op tn eb ec) (ty2 cB cI)) (vp_Si (fun r => r = nI (b01 (hF L.1 (bO eb ec k) fd fc)))) 0 0 (fun _ => False) := by
  refine met_r (by decide) rfl (Nat.le_of_ble_eq_true rfl) ?_
  intro p e s m below meth c hx hb hml hr hlocks hown hts hP hK ls hl
  have hown : s.vm.findClass RX1 = some m.cls := hown
  have hinX1 : ∀ w ∈ u_ws RX1 TX1 7, w ∈ wsX1_hasFedRow := by decide +kernel
  have hinX0 : ∀ w ∈ u_ws RX0 TX0 5, w ∈ wsX1_hasFedRow := by decide +kernel
  have hl : lv_has ls 3 [(0, .ref b0), (1, .int (nI k))] := hl
  refine lv_aload_n hx hb dX1_hasFedRow_0 rfl (lv_at hl 0 rfl) ?_
  refine lv_iload_n hx hb dX1_hasFedRow_1 rfl (lv_at hl 1 rfl) ?_
  refine rd_V (As := [.int (nI k)]) (rest := []) ⟨hx, hb, hml, hown, hts⟩ (c_X1_lengthOf l D b0 b1 b2 a0 a1 a2 a3 cB cI n L fd fc op tn eb ec k hn hg he hE hk) (cwV 1 hts gX1_hasFedRow_X1_lengthOf rfl rfl rfl (by decide +kernel) ⟨Nat.le_of_ble_eq_true rfl, Nat.le_of_ble_eq_true rfl⟩) hK hP [0, 1, 2, 3, 4, 5, 6] rfl (ci := 2) rfl rfl (q0 := 0) rfl rfl hl.1 rfl (Nat.le_of_ble_eq_true rfl) dX1_hasFedRow_2 ⟨Nat.zero_le _, Nat.zero_le _⟩ (fun r1 hr1 => ?_)
  subst hr1
  have g9 := hg (64 * bO eb ec k + 2)
  refine lv_aload_n hx hb dX1_hasFedRow_5 rfl (lv_at hl 0 rfl) ?_
  refine va_get (D := D) (ci := 2) (v := .int (nI fc)) (C := RX1) (T := TX1) (N := 7) hx hb hts hinX1 hown hK hP 0 rfl rfl 2 (by decide) (hts (.fieldLink RX1 13 "PuzzleBook" "fedCount" "I") (by decide +kernel)) (fun _ h9 => h9) rfl dX1_hasFedRow_6 ?_
  have hf0 := hf
  refine jb_eq (tgt := 14) hx hb (nI_toInt (n := L.1 (64 * bO eb ec k + 2)) (by omega)) (nI_toInt (n := fc) (by omega)) dX1_hasFedRow_9 (by decide) (fun c2 => ?_) (fun c2 => ?_)
  · skip
    have hl9 : L.1 (64 * bO eb ec k + 2) = fc := Int.ofNat_inj.mp c2
    have loop : ∀ (fu i : Nat), i ≤ fc → fc - i < fu → (∀ j, j < i → L.1 (64 * bO eb ec k + (3 + j)) = fd j) → ∀ ls : Array Slot, lv_has ls 3 [(2, .int (nI i)), (0, .ref b0), (1, .int (nI k))] → W p l e ({ frames := 4, cells := 0, slots := 0, locals := 88 }) s m [.ref b0, .int (nI k)].toArray below meth c s.heap [] 0 0 (MQ below (vp_Si (fun r => r = nI (b01 (hF L.1 (bO eb ec k) fd fc)))) [.ref b0, .int (nI k)].toArray s 0 0 (fun _ => False)) (F0 m 16 ls []) := by
      intro fu
      induction fu with
      | zero => intro i hk hf; omega
      | succ fu ih =>
        intro i hi hf hj ls hl
        refine lv_iload_n hx hb dX1_hasFedRow_16 rfl (lv_at hl 0 rfl) ?_
        refine lv_aload_n hx hb dX1_hasFedRow_17 rfl (lv_at hl 1 rfl) ?_
        refine va_get (D := D) (ci := 2) (v := .int (nI fc)) (C := RX1) (T := TX1) (N := 7) hx hb hts hinX1 hown hK hP 0 rfl rfl 2 (by decide) (hts (.fieldLink RX1 13 "PuzzleBook" "fedCount" "I") (by decide +kernel)) (fun _ h9 => h9) rfl dX1_hasFedRow_18 ?_
        refine jb_ge (tgt := 46) hx hb (nI_toInt (n := i) (by omega)) (nI_toInt (n := fc) (by omega)) dX1_hasFedRow_21 (by decide) (fun c3 => ?_) (fun c3 => ?_)
        · skip
          refine lv_iconst (v := nI 1) hx hb dX1_hasFedRow_46 (by decide +kernel) ?_
          have hk9 : fc = i := by omega
          subst hk9
          exact rt_z hx hb hr hlocks dX1_hasFedRow_47 (by decide +kernel) (by rw [b01_t ⟨hl9, hj⟩])
        · skip
          refine lv_aload_n hx hb dX1_hasFedRow_24 rfl (lv_at hl 1 rfl) ?_
          refine lv_iload_n hx hb dX1_hasFedRow_25 rfl (lv_at hl 2 rfl) ?_
          refine lv_iload_n hx hb dX1_hasFedRow_26 rfl (lv_at hl 0 rfl) ?_
          refine rd_V (As := [.int (nI k), .int (nI i)]) (rest := []) ⟨hx, hb, hml, hown, hts⟩ (c_X1_rowByte l D b0 b1 b2 a0 a1 a2 a3 cB cI n L fd fc op tn eb ec k (nI i) ((i : Nat) : Int) hn hg he hE hk (nI_toInt (by omega))) (cwV 2 hts gX1_hasFedRow_X1_rowByte rfl rfl rfl (by decide +kernel) ⟨Nat.le_of_ble_eq_true rfl, Nat.le_of_ble_eq_true rfl⟩) hK hP [0, 1, 2, 3, 4, 5, 6] rfl (ci := 2) rfl rfl (q0 := 0) rfl rfl hl.1 rfl (Nat.le_of_ble_eq_true rfl) dX1_hasFedRow_27 ⟨Nat.zero_le _, Nat.zero_le _⟩ (fun r4 hr4 => ?_)
          subst hr4
          refine lv_as (y := nI (L.1 (64 * bO eb ec k + (3 + i)))) (by unfold rwB; rw [if_pos (by omega)]; rfl) ?_
          have g8 := hg (64 * bO eb ec k + (3 + i))
          have d8 := hd i
          refine lv_aload_n hx hb dX1_hasFedRow_30 rfl (lv_at hl 1 rfl) ?_
          refine lv_iload_n hx hb dX1_hasFedRow_31 rfl (lv_at hl 0 rfl) ?_
          refine rd_V (As := [.int (nI i)]) (rest := [.int (nI (L.1 (64 * bO eb ec k + (3 + i))))]) ⟨hx, hb, hml, hown, hts⟩ (c_X1_fedByte l D b0 b1 b2 a0 a1 a2 a3 cB cI n L fd fc op tn eb ec i hf0 (by omega)) (cwV 1 hts gX1_hasFedRow_X1_fedByte rfl rfl rfl (by decide +kernel) ⟨Nat.le_of_ble_eq_true rfl, Nat.le_of_ble_eq_true rfl⟩) hK hP [0, 1, 2, 3, 4, 5, 6] rfl (ci := 2) rfl rfl (q0 := 0) rfl rfl hl.1 rfl (Nat.le_of_ble_eq_true rfl) dX1_hasFedRow_32 ⟨Nat.zero_le _, Nat.zero_le _⟩ (fun r5 hr5 => ?_)
          subst hr5
          refine lv_as (y := nI (fd i)) (congrArg nI (bO_t (by omega))) ?_
          refine jb_eq (tgt := 40) hx hb (nI_toInt (n := L.1 (64 * bO eb ec k + (3 + i))) (by omega)) (nI_toInt (n := fd i) (by omega)) dX1_hasFedRow_35 (by decide) (fun c6 => ?_) (fun c6 => ?_)
          · skip
            refine lv_iinc (v := nI (i + 1)) (lv' := [(2, .int (nI (i + 1))), (0, .ref b0), (1, .int (nI k))]) hx hb dX1_hasFedRow_40 hl (k := 0) rfl (nI_add _ 1) (by decide) rfl (fun ls hl => ?_)
            refine lv_goto (tgt := 16) hx hb dX1_hasFedRow_43 (by decide) ?_
            exact ih (i + 1) (by omega) (by omega) (fun j q => (Nat.lt_or_eq_of_le (Nat.le_of_lt_succ q)).elim (hj j) (fun q => by rw [q]; exact Int.ofNat_inj.mp c6)) ls (lv_sub hl [0, 1, 2] rfl)
          · skip
            refine lv_iconst (v := nI 0) hx hb dX1_hasFedRow_38 (by decide +kernel) ?_
            exact rt_z hx hb hr hlocks dX1_hasFedRow_39 (by decide +kernel) (by rw [b01_f (fun h => c6 (by rw [h.2 i (by omega)]))])
    refine lv_iconst (v := nI 0) hx hb dX1_hasFedRow_14 (by decide +kernel) ?_
    refine lv_istore_n (lv' := [(2, .int (nI 0)), (0, .ref b0), (1, .int (nI k))]) hx hb dX1_hasFedRow_15 rfl hl (by decide) rfl (fun ls hl => ?_)
    exact loop (fc + 1) 0 (by omega) (by omega) (fun j q => absurd q (Nat.not_lt_zero j)) ls (lv_sub hl [0, 1, 2] rfl)
  · skip
    refine lv_iconst (v := nI 0) hx hb dX1_hasFedRow_12 (by decide +kernel) ?_
    exact rt_z hx hb hr hlocks dX1_hasFedRow_13 (by decide +kernel) (by rw [b01_f (fun h => c2 (by rw [h.1]))])
set_option maxRecDepth 100000 in
set_option maxHeartbeats 4000000 in
/-- firstEntryWithFedRow() -/
theorem c_X1_firstEntryWithFedRow (l : Launch) (D : va_G) (b0 b1 b2 a0 a1 a2 a3 : Nat) (cB cI : ClassId) (n : Nat) (L : Lg) (fd : Nat → Nat) (fc : Nat) (op : Nat) (tn : Nat) (eb : Nat → Nat) (ec : Nat)  (hn : n ≤ 64) (hg : ∀ j, L.1 j < 256) (he : ec ≤ 40) (hE : ∀ k, bO eb ec k < n) (hf : fc ≤ 48) (hd : ∀ i, fd i < 256) : Met l yX1_firstEntryWithFedRow wsX1_firstEntryWithFedRow ({ frames := 5, cells := 0, slots := 0, locals := 110 }) (rP [.ref b0] D (bW b0 b1 b2 a0 a1 a2 a3 cB cI n L fd fc op tn eb ec) (ty2 cB cI)) (vp_Si (fun r => r = fI (fun k => hF L.1 (bO eb ec k) fd fc) ec)) 0 0 (fun _ => False) := by
  refine met_r (by decide) rfl (Nat.le_of_ble_eq_true rfl) ?_
  intro p e s m below meth c hx hb hml hr hlocks hown hts hP hK ls hl
  have hown : s.vm.findClass RX1 = some m.cls := hown
  have hinX1 : ∀ w ∈ u_ws RX1 TX1 7, w ∈ wsX1_firstEntryWithFedRow := by decide +kernel
  have hinX0 : ∀ w ∈ u_ws RX0 TX0 5, w ∈ wsX1_firstEntryWithFedRow := by decide +kernel
  have hl : lv_has ls 2 [(0, .ref b0)] := hl
  have loop : ∀ (fu k : Nat), k ≤ ec → ec - k < fu → (∀ j, j < k → ¬ hF L.1 (bO eb ec j) fd fc) → ∀ ls : Array Slot, lv_has ls 2 [(1, .int (nI k)), (0, .ref b0)] → W p l e ({ frames := 5, cells := 0, slots := 0, locals := 110 }) s m [.ref b0].toArray below meth c s.heap [] 0 0 (MQ below (vp_Si (fun r => r = fI (fun k => hF L.1 (bO eb ec k) fd fc) ec)) [.ref b0].toArray s 0 0 (fun _ => False)) (F0 m 2 ls []) := by
    intro fu
    induction fu with
    | zero => intro k hk hf; omega
    | succ fu ih =>
      intro k hk hfu hj ls hl
      refine lv_iload_n hx hb dX1_firstEntryWithFedRow_2 rfl (lv_at hl 0 rfl) ?_
      refine lv_aload_n hx hb dX1_firstEntryWithFedRow_3 rfl (lv_at hl 1 rfl) ?_
      refine va_get (D := D) (ci := 2) (v := .int (nI ec)) (C := RX1) (T := TX1) (N := 7) hx hb hts hinX1 hown hK hP 0 rfl rfl 6 (by decide) (hts (.fieldLink RX1 20 "PuzzleBook" "entryCount" "I") (by decide +kernel)) (fun _ h9 => h9) rfl dX1_firstEntryWithFedRow_4 ?_
      refine jb_ge (tgt := 26) hx hb (nI_toInt (n := k) (by omega)) (nI_toInt (n := ec) (by omega)) dX1_firstEntryWithFedRow_7 (by decide) (fun c1 => ?_) (fun c1 => ?_)
      · skip
        refine lv_iconst (v := -1) hx hb dX1_firstEntryWithFedRow_26 (by decide +kernel) ?_
        have hk9 : ec = k := by omega
        subst hk9
        exact rt_i hx hb hr hlocks dX1_firstEntryWithFedRow_27 (fI_f (P := (fun k => hF L.1 (bO eb ec k) fd fc)) hj).symm
      · skip
        refine lv_aload_n hx hb dX1_firstEntryWithFedRow_10 rfl (lv_at hl 1 rfl) ?_
        refine lv_iload_n hx hb dX1_firstEntryWithFedRow_11 rfl (lv_at hl 0 rfl) ?_
        refine rd_V (As := [.int (nI k)]) (rest := []) ⟨hx, hb, hml, hown, hts⟩ (c_X1_hasFedRow l D b0 b1 b2 a0 a1 a2 a3 cB cI n L fd fc op tn eb ec k hn hg he hE (by omega) hf hd) (cwV 1 hts gX1_firstEntryWithFedRow_X1_hasFedRow rfl rfl rfl (by decide +kernel) ⟨Nat.le_of_ble_eq_true rfl, Nat.le_of_ble_eq_true rfl⟩) hK hP [0, 1, 2, 3, 4, 5, 6] rfl (ci := 2) rfl rfl (q0 := 0) rfl rfl hl.1 rfl (Nat.le_of_ble_eq_true rfl) dX1_firstEntryWithFedRow_12 ⟨Nat.zero_le _, Nat.zero_le _⟩ (fun r2 hr2 => ?_)
        subst hr2
        by_cases q3 : (hF L.1 (bO eb ec k) fd fc)
        · skip
          refine lv_as (y := nI 1) (congrArg nI (b01_t q3)) ?_
          refine j0_eq (tgt := 20) hx hb (nI_toInt (n := 1) (by decide)) dX1_firstEntryWithFedRow_15 (by decide) (fun c4 => absurd c4 (by omega)) (fun c4 => ?_)
          refine lv_iload_n hx hb dX1_firstEntryWithFedRow_18 rfl (lv_at hl 0 rfl) ?_
          exact rt_i hx hb hr hlocks dX1_firstEntryWithFedRow_19 (fI_t (P := (fun k => hF L.1 (bO eb ec k) fd fc)) (by omega) q3 hj).symm
        · skip
          refine lv_as (y := nI 0) (congrArg nI (b01_f q3)) ?_
          refine j0_eq (tgt := 20) hx hb (nI_toInt (n := 0) (by decide)) dX1_firstEntryWithFedRow_15 (by decide) (fun c5 => ?_) (fun c5 => absurd c5 (by omega))
          refine lv_iinc (v := nI (k + 1)) (lv' := [(1, .int (nI (k + 1))), (0, .ref b0)]) hx hb dX1_firstEntryWithFedRow_20 hl (k := 0) rfl (nI_add _ 1) (by decide) rfl (fun ls hl => ?_)
          refine lv_goto (tgt := 2) hx hb dX1_firstEntryWithFedRow_23 (by decide) ?_
          exact ih (k + 1) (by omega) (by omega) (fun j q => (Nat.lt_or_eq_of_le (Nat.le_of_lt_succ q)).elim (hj j) (fun q => by rw [q]; exact q3)) ls (lv_sub hl [0, 1] rfl)
  refine lv_iconst (v := nI 0) hx hb dX1_firstEntryWithFedRow_0 (by decide +kernel) ?_
  refine lv_istore_n (lv' := [(1, .int (nI 0)), (0, .ref b0)]) hx hb dX1_firstEntryWithFedRow_1 rfl hl (by decide) rfl (fun ls hl => ?_)
  exact loop (ec + 1) 0 (by omega) (by omega) (fun j q => absurd q (Nat.not_lt_zero j)) ls (lv_sub hl [0, 1] rfl)
set_option maxRecDepth 100000 in
set_option maxHeartbeats 4000000 in
/-- isTaken(block) -/
theorem c_X1_isTaken (l : Launch) (D : va_G) (b0 b1 b2 a0 a1 a2 a3 : Nat) (cB cI : ClassId) (n : Nat) (L : Lg) (fd : Nat → Nat) (fc : Nat) (op : Nat) (tn : Nat) (eb : Nat → Nat) (ec : Nat) (bk : Nat) (hn : n ≤ 64) (he : ec ≤ 40) (hE : ∀ k, bO eb ec k < n) (hb0 : bk < 2 ^ 31) : Met l yX1_isTaken wsX1_isTaken ({ frames := 1, cells := 0, slots := 0, locals := 21 }) (rP [.ref b0, .int (nI bk)] D (bW b0 b1 b2 a0 a1 a2 a3 cB cI n L fd fc op tn eb ec) (ty2 cB cI)) (vp_Si (fun r => r = nI (b01 (tk (bO eb ec) ec bk)))) 0 0 (fun _ => False) := by
  refine met_r (by decide) rfl (Nat.le_of_ble_eq_true rfl) ?_
  intro p e s m below meth c hx hb hml hr hlocks hown hts hP hK ls hl
  have hown : s.vm.findClass RX1 = some m.cls := hown
  have hinX1 : ∀ w ∈ u_ws RX1 TX1 7, w ∈ wsX1_isTaken := by decide +kernel
  have hl : lv_has ls 3 [(0, .ref b0), (1, .int (nI bk))] := hl
  have loop : ∀ (fu k : Nat), k ≤ ec → ec - k < fu → (∀ j, j < k → ¬ bO eb ec j = bk) → ∀ ls : Array Slot, lv_has ls 3 [(2, .int (nI k)), (0, .ref b0), (1, .int (nI bk))] → W p l e ({ frames := 1, cells := 0, slots := 0, locals := 21 }) s m [.ref b0, .int (nI bk)].toArray below meth c s.heap [] 0 0 (MQ below (vp_Si (fun r => r = nI (b01 (tk (bO eb ec) ec bk)))) [.ref b0, .int (nI bk)].toArray s 0 0 (fun _ => False)) (F0 m 2 ls []) := by
    intro fu
    induction fu with
    | zero => intro k hk hf; omega
    | succ fu ih =>
      intro k hk hfu hj ls hl
      refine lv_iload_n hx hb dX1_isTaken_2 rfl (lv_at hl 0 rfl) ?_
      refine lv_aload_n hx hb dX1_isTaken_3 rfl (lv_at hl 1 rfl) ?_
      refine va_get (D := D) (ci := 2) (v := .int (nI ec)) (C := RX1) (T := TX1) (N := 7) hx hb hts hinX1 hown hK hP 0 rfl rfl 6 (by decide) (hts (.fieldLink RX1 20 "PuzzleBook" "entryCount" "I") (by decide +kernel)) (fun _ h9 => h9) rfl dX1_isTaken_4 ?_
      refine jb_ge (tgt := 27) hx hb (nI_toInt (n := k) (by omega)) (nI_toInt (n := ec) (by omega)) dX1_isTaken_7 (by decide) (fun c1 => ?_) (fun c1 => ?_)
      · skip
        refine lv_iconst (v := nI 0) hx hb dX1_isTaken_27 (by decide +kernel) ?_
        have hk9 : ec = k := by omega
        subst hk9
        exact rt_z hx hb hr hlocks dX1_isTaken_28 (by decide +kernel) (by rw [b01_f (fun ⟨j, h, q⟩ => hj j h q)])
      · skip
        refine lv_aload_n hx hb dX1_isTaken_10 rfl (lv_at hl 1 rfl) ?_
        refine lv_iload_n hx hb dX1_isTaken_11 rfl (lv_at hl 0 rfl) ?_
        refine rd_V (As := [.int (nI k)]) (rest := []) ⟨hx, hb, hml, hown, hts⟩ (c_X1_blockOf l D b0 b1 b2 a0 a1 a2 a3 cB cI n L fd fc op tn eb ec k he (by omega)) (cwV 1 hts gX1_isTaken_X1_blockOf rfl rfl rfl (by decide +kernel) ⟨Nat.le_of_ble_eq_true rfl, Nat.le_of_ble_eq_true rfl⟩) hK hP [0, 1, 2, 3, 4, 5, 6] rfl (ci := 2) rfl rfl (q0 := 0) rfl rfl hl.1 rfl (Nat.le_of_ble_eq_true rfl) dX1_isTaken_12 ⟨Nat.zero_le _, Nat.zero_le _⟩ (fun r2 hr2 => ?_)
        subst hr2
        have e9 := hE k
        refine lv_iload_n hx hb dX1_isTaken_15 rfl (lv_at hl 2 rfl) ?_
        refine jb_ne (tgt := 21) hx hb (nI_toInt (n := bO eb ec k) (by omega)) (nI_toInt (n := bk) (by omega)) dX1_isTaken_16 (by decide) (fun c3 => ?_) (fun c3 => ?_)
        · skip
          refine lv_iinc (v := nI (k + 1)) (lv' := [(2, .int (nI (k + 1))), (0, .ref b0), (1, .int (nI bk))]) hx hb dX1_isTaken_21 hl (k := 0) rfl (nI_add _ 1) (by decide) rfl (fun ls hl => ?_)
          refine lv_goto (tgt := 2) hx hb dX1_isTaken_24 (by decide) ?_
          exact ih (k + 1) (by omega) (by omega) (fun j q => (Nat.lt_or_eq_of_le (Nat.le_of_lt_succ q)).elim (hj j) (fun q => by rw [q]; exact fun z => c3 (by rw [z]))) ls (lv_sub hl [0, 1, 2] rfl)
        · skip
          refine lv_iconst (v := nI 1) hx hb dX1_isTaken_19 (by decide +kernel) ?_
          exact rt_z hx hb hr hlocks dX1_isTaken_20 (by decide +kernel) (by rw [b01_t ⟨k, by omega, Int.ofNat_inj.mp c3⟩])
  refine lv_iconst (v := nI 0) hx hb dX1_isTaken_0 (by decide +kernel) ?_
  refine lv_istore_n (lv' := [(2, .int (nI 0)), (0, .ref b0), (1, .int (nI bk))]) hx hb dX1_isTaken_1 rfl hl (by decide) rfl (fun ls hl => ?_)
  exact loop (ec + 1) 0 (by omega) (by omega) (fun j q => absurd q (Nat.not_lt_zero j)) ls (lv_sub hl [0, 1, 2] rfl)
set_option maxRecDepth 100000 in
set_option maxHeartbeats 4000000 in
/-- leastFreeBlock() -/
theorem c_X1_leastFreeBlock (l : Launch) (D : va_G) (b0 b1 b2 a0 a1 a2 a3 : Nat) (cB cI : ClassId) (n : Nat) (L : Lg) (fd : Nat → Nat) (fc : Nat) (op : Nat) (tn : Nat) (eb : Nat → Nat) (ec : Nat)  (hn0 : 4 ≤ n) (hn : n ≤ 64) (he : ec ≤ 40) (hE : ∀ k, bO eb ec k < n) : Met l yX1_leastFreeBlock wsX1_leastFreeBlock ({ frames := 2, cells := 0, slots := 0, locals := 43 }) (rP [.ref b0] D (bW b0 b1 b2 a0 a1 a2 a3 cB cI n L fd fc op tn eb ec) (ty2 cB cI)) (vp_Si (fun r => r = if lfB (bO eb ec) ec n < n then nI (lfB (bO eb ec) ec n) else -1)) 0 0 (fun _ => False) := by
  refine met_r (by decide) rfl (Nat.le_of_ble_eq_true rfl) ?_
  intro p e s m below meth c hx hb hml hr hlocks hown hts hP hK ls hl
  have hown : s.vm.findClass RX1 = some m.cls := hown
  have hinX1 : ∀ w ∈ u_ws RX1 TX1 7, w ∈ wsX1_leastFreeBlock := by decide +kernel
  have hinX0 : ∀ w ∈ u_ws RX0 TX0 5, w ∈ wsX1_leastFreeBlock := by decide +kernel
  have hl : lv_has ls 2 [(0, .ref b0)] := hl
  have loop : ∀ (fu j : Nat), 3 + j ≤ n → n - (3 + j) < fu → (∀ i, i < j → ¬ ¬ tk (bO eb ec) ec (3 + i)) → ∀ ls : Array Slot, lv_has ls 2 [(1, .int (nI (3 + j))), (0, .ref b0)] → W p l e ({ frames := 2, cells := 0, slots := 0, locals := 43 }) s m [.ref b0].toArray below meth c s.heap [] 0 0 (MQ below (vp_Si (fun r => r = if lfB (bO eb ec) ec n < n then nI (lfB (bO eb ec) ec n) else -1)) [.ref b0].toArray s 0 0 (fun _ => False)) (F0 m 2 ls []) := by
    intro fu
    induction fu with
    | zero => intro k hk hf; omega
    | succ fu ih =>
      intro j hj hfu hi ls hl
      refine lv_iload_n hx hb dX1_leastFreeBlock_2 rfl (lv_at hl 0 rfl) ?_
      refine lv_aload_n hx hb dX1_leastFreeBlock_3 rfl (lv_at hl 1 rfl) ?_
      refine va_get (D := D) (ci := 2) (v := .ref a0) (C := RX1) (T := TX1) (N := 7) hx hb hts hinX1 hown hK hP 0 rfl rfl 0 (by decide) (hts (.fieldLink RX1 28 "PuzzleBook" "store" "LPuzzleBook$Store;") (by decide +kernel)) (fun _ h9 => h9) rfl dX1_leastFreeBlock_4 ?_
      refine rd_V (As := []) (rest := [.int (nI (3 + j))]) ⟨hx, hb, hml, hown, hts⟩ (c_X0_blockCount l D a0 a1 a2 a3 cB cI n L  ) (cwV 0 hts gX1_leastFreeBlock_X0_blockCount rfl rfl rfl (by decide +kernel) ⟨Nat.le_of_ble_eq_true rfl, Nat.le_of_ble_eq_true rfl⟩) hK hP [3, 4, 5, 6] rfl (ci := 1) rfl rfl (q0 := 3) rfl rfl hl.1 rfl (Nat.le_of_ble_eq_true rfl) dX1_leastFreeBlock_7 ⟨Nat.zero_le _, Nat.zero_le _⟩ (fun r1 hr1 => ?_)
      subst hr1
      refine jb_ge (tgt := 29) hx hb (nI_toInt (n := 3 + j) (by omega)) (nI_toInt (n := n) (by omega)) dX1_leastFreeBlock_10 (by decide) (fun c2 => ?_) (fun c2 => ?_)
      · skip
        refine lv_iconst (v := -1) hx hb dX1_leastFreeBlock_29 (by decide +kernel) ?_
        have e9 : lfB (bO eb ec) ec n = n := by unfold lfB; rw [fN_no (fun k hk => hi k (by omega))]; omega
        exact rt_i hx hb hr hlocks dX1_leastFreeBlock_30 (by rw [e9, if_neg (Nat.lt_irrefl n)])
      · skip
        refine lv_aload_n hx hb dX1_leastFreeBlock_13 rfl (lv_at hl 1 rfl) ?_
        refine lv_iload_n hx hb dX1_leastFreeBlock_14 rfl (lv_at hl 0 rfl) ?_
        refine rd_V (As := [.int (nI (3 + j))]) (rest := []) ⟨hx, hb, hml, hown, hts⟩ (c_X1_isTaken l D b0 b1 b2 a0 a1 a2 a3 cB cI n L fd fc op tn eb ec (3 + j) hn he hE (by omega)) (cwV 1 hts gX1_leastFreeBlock_X1_isTaken rfl rfl rfl (by decide +kernel) ⟨Nat.le_of_ble_eq_true rfl, Nat.le_of_ble_eq_true rfl⟩) hK hP [0, 1, 2, 3, 4, 5, 6] rfl (ci := 2) rfl rfl (q0 := 0) rfl rfl hl.1 rfl (Nat.le_of_ble_eq_true rfl) dX1_leastFreeBlock_15 ⟨Nat.zero_le _, Nat.zero_le _⟩ (fun r3 hr3 => ?_)
        subst hr3
        by_cases q4 : (tk (bO eb ec) ec (3 + j))
        · skip
          refine lv_as (y := nI 1) (congrArg nI (b01_t q4)) ?_
          refine j0_ne (tgt := 23) hx hb (nI_toInt (n := 1) (by decide)) dX1_leastFreeBlock_18 (by decide) (fun c5 => ?_) (fun c5 => absurd c5 (by omega))
          refine lv_iinc (v := nI (3 + j + 1)) (lv' := [(1, .int (nI (3 + j + 1))), (0, .ref b0)]) hx hb dX1_leastFreeBlock_23 hl (k := 0) rfl (nI_add _ 1) (by decide) rfl (fun ls hl => ?_)
          refine lv_goto (tgt := 2) hx hb dX1_leastFreeBlock_26 (by decide) ?_
          exact ih (j + 1) (by omega) (by omega) (fun i q => (Nat.lt_or_eq_of_le (Nat.le_of_lt_succ q)).elim (hi i) (fun q => by rw [q]; exact fun z => z q4)) ls (lv_sub hl [0, 1] rfl)
        · skip
          refine lv_as (y := nI 0) (congrArg nI (b01_f q4)) ?_
          refine j0_ne (tgt := 23) hx hb (nI_toInt (n := 0) (by decide)) dX1_leastFreeBlock_18 (by decide) (fun c6 => absurd c6 (by omega)) (fun c6 => ?_)
          refine lv_iload_n hx hb dX1_leastFreeBlock_21 rfl (lv_at hl 0 rfl) ?_
          have e9 : lfB (bO eb ec) ec n = 3 + j := by unfold lfB; rw [fN_eq (P := (fun j => ¬ tk (bO eb ec) ec (3 + j))) (by omega) q4 hi]
          exact rt_i hx hb hr hlocks dX1_leastFreeBlock_22 (by rw [e9, if_pos (by omega)])
  refine lv_iconst (v := nI 3) hx hb dX1_leastFreeBlock_0 (by decide +kernel) ?_
  refine lv_istore_n (lv' := [(1, .int (nI 3)), (0, .ref b0)]) hx hb dX1_leastFreeBlock_1 rfl hl (by decide) rfl (fun ls hl => ?_)
  exact loop (n + 1) 0 (by omega) (by omega) (fun j q => absurd q (Nat.not_lt_zero j)) ls (lv_sub hl [0, 1] rfl)
set_option maxRecDepth 100000 in
set_option maxHeartbeats 4000000 in
/-- lesserBlock(-1, block) -/
theorem c_X1_lesserBlock (l : Launch) (D : va_G) (cB cI : ClassId)  (bk : Nat)  : Met l yX1_lesserBlock wsX1_lesserBlock ({ frames := 1, cells := 0, slots := 0, locals := 21 }) (rP [.int (-1), .int (nI bk)] D [] (ty2 cB cI)) (vp_Si (fun r => r = nI bk)) 0 0 (fun _ => False) := by
  refine met_r (by decide) rfl (Nat.le_of_ble_eq_true rfl) ?_
  intro p e s m below meth c hx hb hml hr hlocks hown hts hP hK ls hl
  have hown : s.vm.findClass RX1 = some m.cls := hown
  have hl : lv_has ls 2 [(0, .int (-1)), (1, .int (nI bk))] := hl
  refine lv_iload_n hx hb dX1_lesserBlock_0 rfl (lv_at hl 0 rfl) ?_
  refine lv_iconst (v := -1) hx hb dX1_lesserBlock_1 (by decide +kernel) ?_
  refine jb_ne (tgt := 9) hx hb neg1_toInt neg1_toInt dX1_lesserBlock_2 (by decide) (fun c1 => absurd c1 (by omega)) (fun c1 => ?_)
  refine lv_iload_n hx hb dX1_lesserBlock_5 rfl (lv_at hl 1 rfl) ?_
  refine lv_goto (tgt := 14) hx hb dX1_lesserBlock_6 (by decide) ?_
  exact rt_i hx hb hr hlocks dX1_lesserBlock_14 rfl
set_option maxRecDepth 100000 in
set_option maxHeartbeats 4000000 in
/-- lesserBlock(least, block) -/
theorem c_X1_lesserBlock_s (l : Launch) (D : va_G) (cB cI : ClassId)  (x bk : Nat) (h1 : x < 1000) (h2 : bk < 1000) : Met l yX1_lesserBlock wsX1_lesserBlock ({ frames := 1, cells := 0, slots := 0, locals := 21 }) (rP [.int (nI x), .int (nI bk)] D [] (ty2 cB cI)) (vp_Si (fun r => r = nI (min x bk))) 0 0 (fun _ => False) := by
  refine met_r (by decide) rfl (Nat.le_of_ble_eq_true rfl) ?_
  intro p e s m below meth c hx hb hml hr hlocks hown hts hP hK ls hl
  have hown : s.vm.findClass RX1 = some m.cls := hown
  have hl : lv_has ls 2 [(0, .int (nI x)), (1, .int (nI bk))] := hl
  refine lv_iload_n hx hb dX1_lesserBlock_0 rfl (lv_at hl 0 rfl) ?_
  refine lv_iconst (v := -1) hx hb dX1_lesserBlock_1 (by decide +kernel) ?_
  refine jb_ne (tgt := 9) hx hb (nI_toInt (n := x) (by omega)) neg1_toInt dX1_lesserBlock_2 (by decide) (fun c1 => ?_) (fun c1 => absurd c1 (by omega))
  refine lv_iload_n hx hb dX1_lesserBlock_9 rfl (lv_at hl 0 rfl) ?_
  refine lv_iload_n hx hb dX1_lesserBlock_10 rfl (lv_at hl 1 rfl) ?_
  refine va_mmin hx hb (hml.trans hl.1.symm) hown (hts (.methodLink RX1 123 Lib.Math.min.name) (by decide +kernel)) (hts (.static Lib.Math.min.name) (by decide +kernel)) (hts (.initialized "java/lang/Math") (by decide +kernel)) (hts (.code Lib.Math.min.name Lib.Math.min.code 2 (some .int)) (by decide +kernel)) (Nat.le_of_ble_eq_true rfl) (Nat.le_of_ble_eq_true rfl) (Nat.zero_le _) (Nat.zero_le _) dX1_lesserBlock_11 ?_
  refine lv_as (y := nI (min x bk)) (nI_min (by omega) (by omega)) ?_
  exact rt_i hx hb hr hlocks dX1_lesserBlock_14 rfl
set_option maxRecDepth 100000 in
set_option maxHeartbeats 4000000 in
/-- leastWrongEntryBlock() -/
theorem c_X1_leastWrongEntryBlock (l : Launch) (D : va_G) (b0 b1 b2 a0 a1 a2 a3 : Nat) (cB cI : ClassId) (n : Nat) (L : Lg) (fd : Nat → Nat) (fc : Nat) (op : Nat) (tn : Nat) (eb : Nat → Nat) (ec : Nat)  (hn : n ≤ 64) (hg : ∀ j, L.1 j < 256) (he : ec ≤ 40) (hE : ∀ k, bO eb ec k < n) : Met l yX1_leastWrongEntryBlock wsX1_leastWrongEntryBlock ({ frames := 4, cells := 0, slots := 0, locals := 91 }) (rP [.ref b0] D (bW b0 b1 b2 a0 a1 a2 a3 cB cI n L fd fc op tn eb ec) (ty2 cB cI)) (vp_Si (fun r => r = lwI (lwN (wrE L.1) (bO eb ec) ec))) 0 0 (fun _ => False) := by
  refine met_r (by decide) rfl (Nat.le_of_ble_eq_true rfl) ?_
  intro p e s m below meth c hx hb hml hr hlocks hown hts hP hK ls hl
  have hown : s.vm.findClass RX1 = some m.cls := hown
  have hinX1 : ∀ w ∈ u_ws RX1 TX1 7, w ∈ wsX1_leastWrongEntryBlock := by decide +kernel
  have hinX0 : ∀ w ∈ u_ws RX0 TX0 5, w ∈ wsX1_leastWrongEntryBlock := by decide +kernel
  have hl : lv_has ls 5 [(0, .ref b0)] := hl
  have h64 : ∀ k, bO eb ec k < 64 := fun k => Nat.lt_of_lt_of_le (hE k) hn
  have loop : ∀ (fu k : Nat) (sv : Int32), k ≤ ec → ec - k < fu → sv = lwI (lwN (wrE L.1) (bO eb ec) k) → ∀ ls : Array Slot, lv_has ls 5 [(1, .int sv), (2, .int (nI k)), (0, .ref b0)] → W p l e ({ frames := 4, cells := 0, slots := 0, locals := 91 }) s m [.ref b0].toArray below meth c s.heap [] 0 0 (MQ below (vp_Si (fun r => r = lwI (lwN (wrE L.1) (bO eb ec) ec))) [.ref b0].toArray s 0 0 (fun _ => False)) (F0 m 4 ls []) := by
    intro fu
    induction fu with
    | zero => intro k sv hk hf; omega
    | succ fu ih =>
      intro k sv hk hfu hs ls hl
      refine lv_iload_n hx hb dX1_leastWrongEntryBlock_4 rfl (lv_at hl 1 rfl) ?_
      refine lv_aload_n hx hb dX1_leastWrongEntryBlock_5 rfl (lv_at hl 2 rfl) ?_
      refine va_get (D := D) (ci := 2) (v := .int (nI ec)) (C := RX1) (T := TX1) (N := 7) hx hb hts hinX1 hown hK hP 0 rfl rfl 6 (by decide) (hts (.fieldLink RX1 20 "PuzzleBook" "entryCount" "I") (by decide +kernel)) (fun _ h9 => h9) rfl dX1_leastWrongEntryBlock_6 ?_
      refine jb_ge (tgt := 60) hx hb (nI_toInt (n := k) (by omega)) (nI_toInt (n := ec) (by omega)) dX1_leastWrongEntryBlock_9 (by decide) (fun c1 => ?_) (fun c1 => ?_)
      · skip
        refine lv_iload_n hx hb dX1_leastWrongEntryBlock_60 rfl (lv_at hl 0 rfl) ?_
        have hk9 : ec = k := by omega
        subst hk9
        exact rt_i hx hb hr hlocks dX1_leastWrongEntryBlock_61 hs
      · skip
        refine lv_aload_n hx hb dX1_leastWrongEntryBlock_12 rfl (lv_at hl 2 rfl) ?_
        refine lv_iload_n hx hb dX1_leastWrongEntryBlock_13 rfl (lv_at hl 1 rfl) ?_
        refine rd_V (As := [.int (nI k)]) (rest := []) ⟨hx, hb, hml, hown, hts⟩ (c_X1_blockOf l D b0 b1 b2 a0 a1 a2 a3 cB cI n L fd fc op tn eb ec k he (by omega)) (cwV 1 hts gX1_leastWrongEntryBlock_X1_blockOf rfl rfl rfl (by decide +kernel) ⟨Nat.le_of_ble_eq_true rfl, Nat.le_of_ble_eq_true rfl⟩) hK hP [0, 1, 2, 3, 4, 5, 6] rfl (ci := 2) rfl rfl (q0 := 0) rfl rfl hl.1 rfl (Nat.le_of_ble_eq_true rfl) dX1_leastWrongEntryBlock_14 ⟨Nat.zero_le _, Nat.zero_le _⟩ (fun r2 hr2 => ?_)
        subst hr2
        refine lv_istore_n (lv' := [(3, .int (nI (bO eb ec k))), (1, .int sv), (2, .int (nI k)), (0, .ref b0)]) hx hb dX1_leastWrongEntryBlock_17 rfl hl (by decide) rfl (fun ls hl => ?_)
        refine lv_aload_n hx hb dX1_leastWrongEntryBlock_18 rfl (lv_at hl 3 rfl) ?_
        refine lv_iload_n hx hb dX1_leastWrongEntryBlock_19 rfl (lv_at hl 2 rfl) ?_
        refine rd_V (As := [.int (nI k)]) (rest := []) ⟨hx, hb, hml, hown, hts⟩ (c_X1_lengthOf l D b0 b1 b2 a0 a1 a2 a3 cB cI n L fd fc op tn eb ec k hn hg he hE (by omega)) (cwV 1 hts gX1_leastWrongEntryBlock_X1_lengthOf rfl rfl rfl (by decide +kernel) ⟨Nat.le_of_ble_eq_true rfl, Nat.le_of_ble_eq_true rfl⟩) hK hP [0, 1, 2, 3, 4, 5, 6] rfl (ci := 2) rfl rfl (q0 := 0) rfl rfl hl.1 rfl (Nat.le_of_ble_eq_true rfl) dX1_leastWrongEntryBlock_20 ⟨Nat.zero_le _, Nat.zero_le _⟩ (fun r3 hr3 => ?_)
        subst hr3
        refine lv_istore (lv' := [(4, .int (nI (L.1 (64 * bO eb ec k + 2)))), (3, .int (nI (bO eb ec k))), (1, .int sv), (2, .int (nI k)), (0, .ref b0)]) hx hb dX1_leastWrongEntryBlock_23 hl (by decide) rfl (fun ls hl => ?_)
        refine lv_aload_n hx hb dX1_leastWrongEntryBlock_25 rfl (lv_at hl 4 rfl) ?_
        refine va_get (D := D) (ci := 2) (v := .ref a0) (C := RX1) (T := TX1) (N := 7) hx hb hts hinX1 hown hK hP 0 rfl rfl 0 (by decide) (hts (.fieldLink RX1 28 "PuzzleBook" "store" "LPuzzleBook$Store;") (by decide +kernel)) (fun _ h9 => h9) rfl dX1_leastWrongEntryBlock_26 ?_
        refine lv_iload_n hx hb dX1_leastWrongEntryBlock_29 rfl (lv_at hl 1 rfl) ?_
        have g9 := hg (64 * bO eb ec k + 2)
        refine rd_V (As := [.int (nI (bO eb ec k))]) (rest := []) ⟨hx, hb, hml, hown, hts⟩ (c_X0_hasRightSum l D a0 a1 a2 a3 cB cI n L (bO eb ec k) hn hg (hE _)) (cwV 1 hts gX1_leastWrongEntryBlock_X0_hasRightSum rfl rfl rfl (by decide +kernel) ⟨Nat.le_of_ble_eq_true rfl, Nat.le_of_ble_eq_true rfl⟩) hK hP [3, 4, 5, 6] rfl (ci := 1) rfl rfl (q0 := 3) rfl rfl hl.1 rfl (Nat.le_of_ble_eq_true rfl) dX1_leastWrongEntryBlock_30 ⟨Nat.zero_le _, Nat.zero_le _⟩ (fun r4 hr4 => ?_)
        subst hr4
        by_cases q5 : (okS L.1 (64 * (bO eb ec k)))
        · skip
          refine lv_as (y := nI 1) (congrArg nI (b01_t q5)) ?_
          refine j0_eq (tgt := 48) hx hb (nI_toInt (n := 1) (by decide)) dX1_leastWrongEntryBlock_33 (by decide) (fun c6 => absurd c6 (by omega)) (fun c6 => ?_)
          refine lv_iload hx hb dX1_leastWrongEntryBlock_36 (lv_at hl 0 rfl) ?_
          refine j0_eq (tgt := 48) hx hb (nI_toInt (n := L.1 (64 * bO eb ec k + 2)) (by omega)) dX1_leastWrongEntryBlock_38 (by decide) (fun c7 => ?_) (fun c7 => ?_)
          · skip
            by_cases q9 : lwN (wrE L.1) (bO eb ec) k = 1000
            · skip
              refine lv_iload_n hx hb dX1_leastWrongEntryBlock_48 rfl (lv_at hl 2 rfl) ?_
              refine lv_as (y := (-1)) (by rw [hs]; unfold lwI; rw [if_pos q9]) ?_
              refine lv_iload_n hx hb dX1_leastWrongEntryBlock_49 rfl (lv_at hl 1 rfl) ?_
              refine rd_S (As := [.int (-1), .int (nI (bO eb ec k))]) (rest := []) ⟨hx, hb, hml, hown, hts⟩ (c_X1_lesserBlock l D  cB cI  (bO eb ec k) ) (va_cwS 2 hts gX1_leastWrongEntryBlock_X1_lesserBlock rfl rfl rfl (by decide +kernel) ⟨Nat.le_of_ble_eq_true rfl, Nat.le_of_ble_eq_true rfl⟩) hK hP [] rfl rfl hl.1 rfl (Nat.le_of_ble_eq_true rfl) dX1_leastWrongEntryBlock_50 ⟨Nat.zero_le _, Nat.zero_le _⟩ (fun r8 hr8 => ?_)
              subst hr8
              refine lv_istore_n (lv' := [(1, .int (nI (bO eb ec k))), (4, .int (nI (L.1 (64 * bO eb ec k + 2)))), (3, .int (nI (bO eb ec k))), (2, .int (nI k)), (0, .ref b0)]) hx hb dX1_leastWrongEntryBlock_53 rfl hl (by decide) rfl (fun ls hl => ?_)
              refine lv_iinc (v := nI (k + 1)) (lv' := [(2, .int (nI (k + 1))), (1, .int (nI (bO eb ec k))), (4, .int (nI (L.1 (64 * bO eb ec k + 2)))), (3, .int (nI (bO eb ec k))), (0, .ref b0)]) hx hb dX1_leastWrongEntryBlock_54 hl (k := 3) rfl (nI_add _ 1) (by decide) rfl (fun ls hl => ?_)
              refine lv_goto (tgt := 4) hx hb dX1_leastWrongEntryBlock_57 (by decide) ?_
              exact ih (k + 1) _ (by omega) (by omega) (lw_none q9 (Or.inr (Or.inl (by omega))) h64) ls (lv_sub hl [1, 0, 4] rfl)
            · skip
              have l64 := (lwN_or (P := (wrE L.1)) (E := (bO eb ec)) h64 k).resolve_left q9
              refine lv_iload_n hx hb dX1_leastWrongEntryBlock_48 rfl (lv_at hl 2 rfl) ?_
              refine lv_as (y := nI (lwN (wrE L.1) (bO eb ec) k)) (by rw [hs]; unfold lwI; rw [if_neg q9]) ?_
              refine lv_iload_n hx hb dX1_leastWrongEntryBlock_49 rfl (lv_at hl 1 rfl) ?_
              refine rd_S (As := [.int (nI (lwN (wrE L.1) (bO eb ec) k)), .int (nI (bO eb ec k))]) (rest := []) ⟨hx, hb, hml, hown, hts⟩ (c_X1_lesserBlock_s l D  cB cI  (lwN (wrE L.1) (bO eb ec) k) (bO eb ec k) (by omega) (by have := h64 k; omega)) (va_cwS 2 hts gX1_leastWrongEntryBlock_X1_lesserBlock rfl rfl rfl (by decide +kernel) ⟨Nat.le_of_ble_eq_true rfl, Nat.le_of_ble_eq_true rfl⟩) hK hP [] rfl rfl hl.1 rfl (Nat.le_of_ble_eq_true rfl) dX1_leastWrongEntryBlock_50 ⟨Nat.zero_le _, Nat.zero_le _⟩ (fun r9 hr9 => ?_)
              subst hr9
              refine lv_istore_n (lv' := [(1, .int (nI (min (lwN (wrE L.1) (bO eb ec) k) (bO eb ec k)))), (4, .int (nI (L.1 (64 * bO eb ec k + 2)))), (3, .int (nI (bO eb ec k))), (2, .int (nI k)), (0, .ref b0)]) hx hb dX1_leastWrongEntryBlock_53 rfl hl (by decide) rfl (fun ls hl => ?_)
              refine lv_iinc (v := nI (k + 1)) (lv' := [(2, .int (nI (k + 1))), (1, .int (nI (min (lwN (wrE L.1) (bO eb ec) k) (bO eb ec k)))), (4, .int (nI (L.1 (64 * bO eb ec k + 2)))), (3, .int (nI (bO eb ec k))), (0, .ref b0)]) hx hb dX1_leastWrongEntryBlock_54 hl (k := 3) rfl (nI_add _ 1) (by decide) rfl (fun ls hl => ?_)
              refine lv_goto (tgt := 4) hx hb dX1_leastWrongEntryBlock_57 (by decide) ?_
              exact ih (k + 1) _ (by omega) (by omega) (lw_some q9 (Or.inr (Or.inl (by omega))) h64) ls (lv_sub hl [1, 0, 4] rfl)
          · skip
            refine lv_iload hx hb dX1_leastWrongEntryBlock_41 (lv_at hl 0 rfl) ?_
            refine lv_bipush (v := nI 48) hx hb dX1_leastWrongEntryBlock_43 (by decide +kernel) ?_
            refine jb_le (tgt := 54) hx hb (nI_toInt (n := L.1 (64 * bO eb ec k + 2)) (by omega)) (nI_toInt (n := 48) (by decide)) dX1_leastWrongEntryBlock_45 (by decide) (fun c10 => ?_) (fun c10 => ?_)
            · skip
              refine lv_iinc (v := nI (k + 1)) (lv' := [(2, .int (nI (k + 1))), (4, .int (nI (L.1 (64 * bO eb ec k + 2)))), (3, .int (nI (bO eb ec k))), (1, .int sv), (0, .ref b0)]) hx hb dX1_leastWrongEntryBlock_54 hl (k := 3) rfl (nI_add _ 1) (by decide) rfl (fun ls hl => ?_)
              refine lv_goto (tgt := 4) hx hb dX1_leastWrongEntryBlock_57 (by decide) ?_
              exact ih (k + 1) _ (by omega) (by omega) (lw_skip (fun h => h.elim (fun z => z q5) (fun z => by omega)) hs) ls (lv_sub hl [3, 0, 4] rfl)
            · skip
              by_cases q9 : lwN (wrE L.1) (bO eb ec) k = 1000
              · skip
                refine lv_iload_n hx hb dX1_leastWrongEntryBlock_48 rfl (lv_at hl 2 rfl) ?_
                refine lv_as (y := (-1)) (by rw [hs]; unfold lwI; rw [if_pos q9]) ?_
                refine lv_iload_n hx hb dX1_leastWrongEntryBlock_49 rfl (lv_at hl 1 rfl) ?_
                refine rd_S (As := [.int (-1), .int (nI (bO eb ec k))]) (rest := []) ⟨hx, hb, hml, hown, hts⟩ (c_X1_lesserBlock l D  cB cI  (bO eb ec k) ) (va_cwS 2 hts gX1_leastWrongEntryBlock_X1_lesserBlock rfl rfl rfl (by decide +kernel) ⟨Nat.le_of_ble_eq_true rfl, Nat.le_of_ble_eq_true rfl⟩) hK hP [] rfl rfl hl.1 rfl (Nat.le_of_ble_eq_true rfl) dX1_leastWrongEntryBlock_50 ⟨Nat.zero_le _, Nat.zero_le _⟩ (fun r11 hr11 => ?_)
                subst hr11
                refine lv_istore_n (lv' := [(1, .int (nI (bO eb ec k))), (4, .int (nI (L.1 (64 * bO eb ec k + 2)))), (3, .int (nI (bO eb ec k))), (2, .int (nI k)), (0, .ref b0)]) hx hb dX1_leastWrongEntryBlock_53 rfl hl (by decide) rfl (fun ls hl => ?_)
                refine lv_iinc (v := nI (k + 1)) (lv' := [(2, .int (nI (k + 1))), (1, .int (nI (bO eb ec k))), (4, .int (nI (L.1 (64 * bO eb ec k + 2)))), (3, .int (nI (bO eb ec k))), (0, .ref b0)]) hx hb dX1_leastWrongEntryBlock_54 hl (k := 3) rfl (nI_add _ 1) (by decide) rfl (fun ls hl => ?_)
                refine lv_goto (tgt := 4) hx hb dX1_leastWrongEntryBlock_57 (by decide) ?_
                exact ih (k + 1) _ (by omega) (by omega) (lw_none q9 (Or.inr (Or.inr (by omega))) h64) ls (lv_sub hl [1, 0, 4] rfl)
              · skip
                have l64 := (lwN_or (P := (wrE L.1)) (E := (bO eb ec)) h64 k).resolve_left q9
                refine lv_iload_n hx hb dX1_leastWrongEntryBlock_48 rfl (lv_at hl 2 rfl) ?_
                refine lv_as (y := nI (lwN (wrE L.1) (bO eb ec) k)) (by rw [hs]; unfold lwI; rw [if_neg q9]) ?_
                refine lv_iload_n hx hb dX1_leastWrongEntryBlock_49 rfl (lv_at hl 1 rfl) ?_
                refine rd_S (As := [.int (nI (lwN (wrE L.1) (bO eb ec) k)), .int (nI (bO eb ec k))]) (rest := []) ⟨hx, hb, hml, hown, hts⟩ (c_X1_lesserBlock_s l D  cB cI  (lwN (wrE L.1) (bO eb ec) k) (bO eb ec k) (by omega) (by have := h64 k; omega)) (va_cwS 2 hts gX1_leastWrongEntryBlock_X1_lesserBlock rfl rfl rfl (by decide +kernel) ⟨Nat.le_of_ble_eq_true rfl, Nat.le_of_ble_eq_true rfl⟩) hK hP [] rfl rfl hl.1 rfl (Nat.le_of_ble_eq_true rfl) dX1_leastWrongEntryBlock_50 ⟨Nat.zero_le _, Nat.zero_le _⟩ (fun r12 hr12 => ?_)
                subst hr12
                refine lv_istore_n (lv' := [(1, .int (nI (min (lwN (wrE L.1) (bO eb ec) k) (bO eb ec k)))), (4, .int (nI (L.1 (64 * bO eb ec k + 2)))), (3, .int (nI (bO eb ec k))), (2, .int (nI k)), (0, .ref b0)]) hx hb dX1_leastWrongEntryBlock_53 rfl hl (by decide) rfl (fun ls hl => ?_)
                refine lv_iinc (v := nI (k + 1)) (lv' := [(2, .int (nI (k + 1))), (1, .int (nI (min (lwN (wrE L.1) (bO eb ec) k) (bO eb ec k)))), (4, .int (nI (L.1 (64 * bO eb ec k + 2)))), (3, .int (nI (bO eb ec k))), (0, .ref b0)]) hx hb dX1_leastWrongEntryBlock_54 hl (k := 3) rfl (nI_add _ 1) (by decide) rfl (fun ls hl => ?_)
                refine lv_goto (tgt := 4) hx hb dX1_leastWrongEntryBlock_57 (by decide) ?_
                exact ih (k + 1) _ (by omega) (by omega) (lw_some q9 (Or.inr (Or.inr (by omega))) h64) ls (lv_sub hl [1, 0, 4] rfl)
        · skip
          refine lv_as (y := nI 0) (congrArg nI (b01_f q5)) ?_
          refine j0_eq (tgt := 48) hx hb (nI_toInt (n := 0) (by decide)) dX1_leastWrongEntryBlock_33 (by decide) (fun c13 => ?_) (fun c13 => absurd c13 (by omega))
          by_cases q9 : lwN (wrE L.1) (bO eb ec) k = 1000
          · skip
            refine lv_iload_n hx hb dX1_leastWrongEntryBlock_48 rfl (lv_at hl 2 rfl) ?_
            refine lv_as (y := (-1)) (by rw [hs]; unfold lwI; rw [if_pos q9]) ?_
            refine lv_iload_n hx hb dX1_leastWrongEntryBlock_49 rfl (lv_at hl 1 rfl) ?_
            refine rd_S (As := [.int (-1), .int (nI (bO eb ec k))]) (rest := []) ⟨hx, hb, hml, hown, hts⟩ (c_X1_lesserBlock l D  cB cI  (bO eb ec k) ) (va_cwS 2 hts gX1_leastWrongEntryBlock_X1_lesserBlock rfl rfl rfl (by decide +kernel) ⟨Nat.le_of_ble_eq_true rfl, Nat.le_of_ble_eq_true rfl⟩) hK hP [] rfl rfl hl.1 rfl (Nat.le_of_ble_eq_true rfl) dX1_leastWrongEntryBlock_50 ⟨Nat.zero_le _, Nat.zero_le _⟩ (fun r14 hr14 => ?_)
            subst hr14
            refine lv_istore_n (lv' := [(1, .int (nI (bO eb ec k))), (4, .int (nI (L.1 (64 * bO eb ec k + 2)))), (3, .int (nI (bO eb ec k))), (2, .int (nI k)), (0, .ref b0)]) hx hb dX1_leastWrongEntryBlock_53 rfl hl (by decide) rfl (fun ls hl => ?_)
            refine lv_iinc (v := nI (k + 1)) (lv' := [(2, .int (nI (k + 1))), (1, .int (nI (bO eb ec k))), (4, .int (nI (L.1 (64 * bO eb ec k + 2)))), (3, .int (nI (bO eb ec k))), (0, .ref b0)]) hx hb dX1_leastWrongEntryBlock_54 hl (k := 3) rfl (nI_add _ 1) (by decide) rfl (fun ls hl => ?_)
            refine lv_goto (tgt := 4) hx hb dX1_leastWrongEntryBlock_57 (by decide) ?_
            exact ih (k + 1) _ (by omega) (by omega) (lw_none q9 (Or.inl q5) h64) ls (lv_sub hl [1, 0, 4] rfl)
          · skip
            have l64 := (lwN_or (P := (wrE L.1)) (E := (bO eb ec)) h64 k).resolve_left q9
            refine lv_iload_n hx hb dX1_leastWrongEntryBlock_48 rfl (lv_at hl 2 rfl) ?_
            refine lv_as (y := nI (lwN (wrE L.1) (bO eb ec) k)) (by rw [hs]; unfold lwI; rw [if_neg q9]) ?_
            refine lv_iload_n hx hb dX1_leastWrongEntryBlock_49 rfl (lv_at hl 1 rfl) ?_
            refine rd_S (As := [.int (nI (lwN (wrE L.1) (bO eb ec) k)), .int (nI (bO eb ec k))]) (rest := []) ⟨hx, hb, hml, hown, hts⟩ (c_X1_lesserBlock_s l D  cB cI  (lwN (wrE L.1) (bO eb ec) k) (bO eb ec k) (by omega) (by have := h64 k; omega)) (va_cwS 2 hts gX1_leastWrongEntryBlock_X1_lesserBlock rfl rfl rfl (by decide +kernel) ⟨Nat.le_of_ble_eq_true rfl, Nat.le_of_ble_eq_true rfl⟩) hK hP [] rfl rfl hl.1 rfl (Nat.le_of_ble_eq_true rfl) dX1_leastWrongEntryBlock_50 ⟨Nat.zero_le _, Nat.zero_le _⟩ (fun r15 hr15 => ?_)
            subst hr15
            refine lv_istore_n (lv' := [(1, .int (nI (min (lwN (wrE L.1) (bO eb ec) k) (bO eb ec k)))), (4, .int (nI (L.1 (64 * bO eb ec k + 2)))), (3, .int (nI (bO eb ec k))), (2, .int (nI k)), (0, .ref b0)]) hx hb dX1_leastWrongEntryBlock_53 rfl hl (by decide) rfl (fun ls hl => ?_)
            refine lv_iinc (v := nI (k + 1)) (lv' := [(2, .int (nI (k + 1))), (1, .int (nI (min (lwN (wrE L.1) (bO eb ec) k) (bO eb ec k)))), (4, .int (nI (L.1 (64 * bO eb ec k + 2)))), (3, .int (nI (bO eb ec k))), (0, .ref b0)]) hx hb dX1_leastWrongEntryBlock_54 hl (k := 3) rfl (nI_add _ 1) (by decide) rfl (fun ls hl => ?_)
            refine lv_goto (tgt := 4) hx hb dX1_leastWrongEntryBlock_57 (by decide) ?_
            exact ih (k + 1) _ (by omega) (by omega) (lw_some q9 (Or.inl q5) h64) ls (lv_sub hl [1, 0, 4] rfl)
  refine lv_iconst (v := -1) hx hb dX1_leastWrongEntryBlock_0 (by decide +kernel) ?_
  refine lv_istore_n (lv' := [(1, .int (-1)), (0, .ref b0)]) hx hb dX1_leastWrongEntryBlock_1 rfl hl (by decide) rfl (fun ls hl => ?_)
  refine lv_iconst (v := nI 0) hx hb dX1_leastWrongEntryBlock_2 (by decide +kernel) ?_
  refine lv_istore_n (lv' := [(2, .int (nI 0)), (1, .int (-1)), (0, .ref b0)]) hx hb dX1_leastWrongEntryBlock_3 rfl hl (by decide) rfl (fun ls hl => ?_)
  exact loop (ec + 1) 0 _ (by omega) (by omega) rfl ls (lv_sub hl [1, 0, 2] rfl)
set_option maxRecDepth 100000 in
set_option maxHeartbeats 4000000 in
/-- find(name, i) -/
theorem c_X1_find (l : Launch) (D : va_G) (b0 b1 b2 a0 a1 a2 a3 : Nat) (cB cI : ClassId) (n : Nat) (L : Lg) (fd : Nat → Nat) (fc : Nat) (op : Nat) (tn : Nat) (eb : Nat → Nat) (ec : Nat) (nv iv : Int32) (nz iz : Int) (hn : n ≤ 64) (hg : ∀ j, L.1 j < 256) (he : ec ≤ 40) (hE : ∀ k, bO eb ec k < n) (ho : op ≤ 1) (h1 : nv.toInt = nz) (h2 : iv.toInt = iz) : Met l yX1_find wsX1_find ({ frames := 4, cells := 0, slots := 0, locals := 88 }) (rP [.ref b0, .int nv, .int iv] D (bW b0 b1 b2 a0 a1 a2 a3 cB cI n L fd fc op tn eb ec) (ty2 cB cI)) (vp_Si (fun r => r = q_find L.1 (bO eb ec) op ec nz iz)) 0 0 (fun _ => False) := by
  refine met_r (by decide) rfl (Nat.le_of_ble_eq_true rfl) ?_
  intro p e s m below meth c hx hb hml hr hlocks hown hts hP hK ls hl
  have hown : s.vm.findClass RX1 = some m.cls := hown
  have hinX1 : ∀ w ∈ u_ws RX1 TX1 7, w ∈ wsX1_find := by decide +kernel
  have hinX0 : ∀ w ∈ u_ws RX0 TX0 5, w ∈ wsX1_find := by decide +kernel
  have hl : lv_has ls 4 [(0, .ref b0), (1, .int nv), (2, .int iv)] := hl
  refine lv_aload_n hx hb dX1_find_0 rfl (lv_at hl 0 rfl) ?_
  refine va_get (D := D) (ci := 2) (v := .int (nI op)) (C := RX1) (T := TX1) (N := 7) hx hb hts hinX1 hown hK hP 0 rfl rfl 3 (by decide) (hts (.fieldLink RX1 45 "PuzzleBook" "isOpen" "Z") (by decide +kernel)) (fun _ h9 => h9) rfl dX1_find_1 ?_
  refine j0_ne (tgt := 9) hx hb (nI_toInt (n := op) (by omega)) dX1_find_4 (by decide) (fun c1 => ?_) (fun c1 => ?_)
  · skip
    have loop : ∀ (fu t : Nat), t ≤ ec → t < fu → fdF L.1 (bO eb ec) nz iz ec = fdF L.1 (bO eb ec) nz iz t → ∀ ls : Array Slot, lv_has ls 4 [(3, .int (nI t - nI 1)), (0, .ref b0), (1, .int nv), (2, .int iv)] → W p l e ({ frames := 4, cells := 0, slots := 0, locals := 88 }) s m [.ref b0, .int nv, .int iv].toArray below meth c s.heap [] 0 0 (MQ below (vp_Si (fun r => r = q_find L.1 (bO eb ec) op ec nz iz)) [.ref b0, .int nv, .int iv].toArray s 0 0 (fun _ => False)) (F0 m 16 ls []) := by
      intro fu
      induction fu with
      | zero => intro t hm hf; omega
      | succ fu ih =>
        intro t hm hfu hq ls hl
        refine lv_iload_n hx hb dX1_find_16 rfl (lv_at hl 0 rfl) ?_
        refine j0_lt (tgt := 42) hx hb (m1_toInt (by omega)) dX1_find_17 (by decide) (fun c2 => ?_) (fun c2 => ?_)
        · skip
          refine lv_iconst (v := -1) hx hb dX1_find_42 (by decide +kernel) ?_
          have hk9 : 0 = t := by omega
          subst hk9
          exact rt_i hx hb hr hlocks dX1_find_43 (by unfold q_find; rw [if_neg (by omega), hq]; rfl)
        · skip
          refine lv_aload_n hx hb dX1_find_20 rfl (lv_at hl 1 rfl) ?_
          refine lv_iload_n hx hb dX1_find_21 rfl (lv_at hl 0 rfl) ?_
          refine lv_as (y := nI (t - 1)) (pk_sub (by omega)) ?_
          refine rd_V (As := [.int (nI (t - 1))]) (rest := []) ⟨hx, hb, hml, hown, hts⟩ (c_X1_nameOf l D b0 b1 b2 a0 a1 a2 a3 cB cI n L fd fc op tn eb ec (t - 1) hn hg he hE (by omega)) (cwV 1 hts gX1_find_X1_nameOf rfl rfl rfl (by decide +kernel) ⟨Nat.le_of_ble_eq_true rfl, Nat.le_of_ble_eq_true rfl⟩) hK hP [0, 1, 2, 3, 4, 5, 6] rfl (ci := 2) rfl rfl (q0 := 0) rfl rfl hl.1 rfl (Nat.le_of_ble_eq_true rfl) dX1_find_22 ⟨Nat.zero_le _, Nat.zero_le _⟩ (fun r3 hr3 => ?_)
          subst hr3
          have m9 : nmO L.1 (bO eb ec (t - 1)) < 65536 := nmO_lt hg _
          refine lv_iload_n hx hb dX1_find_25 rfl (lv_at hl 2 rfl) ?_
          refine jb_ne (tgt := 36) hx hb (nI_toInt (n := nmO L.1 (bO eb ec (t - 1))) (by omega)) h1 dX1_find_26 (by decide) (fun c4 => ?_) (fun c4 => ?_)
          · skip
            refine lv_iinc (v := (nI (t - 1) - nI 1)) (lv' := [(3, .int (nI (t - 1) - nI 1)), (0, .ref b0), (1, .int nv), (2, .int iv)]) hx hb dX1_find_36 hl (k := 0) rfl (m1_dec (by omega)) (by decide) rfl (fun ls hl => ?_)
            refine lv_goto (tgt := 16) hx hb dX1_find_39 (by decide) ?_
            exact ih (t - 1) (by omega) (by omega) (hq.trans (fdF_f (by omega) c4)) ls (lv_sub hl [0, 1, 2, 3] rfl)
          · skip
            refine lv_aload_n hx hb dX1_find_29 rfl (lv_at hl 1 rfl) ?_
            refine lv_iload_n hx hb dX1_find_30 rfl (lv_at hl 0 rfl) ?_
            refine lv_as (y := nI (t - 1)) (pk_sub (by omega)) ?_
            refine lv_iload_n hx hb dX1_find_31 rfl (lv_at hl 3 rfl) ?_
            refine rd_V (As := [.int (nI (t - 1)), .int iv]) (rest := []) ⟨hx, hb, hml, hown, hts⟩ (c_X1_rowByte l D b0 b1 b2 a0 a1 a2 a3 cB cI n L fd fc op tn eb ec (t - 1) iv iz hn hg he hE (by omega) h2) (cwV 2 hts gX1_find_X1_rowByte rfl rfl rfl (by decide +kernel) ⟨Nat.le_of_ble_eq_true rfl, Nat.le_of_ble_eq_true rfl⟩) hK hP [0, 1, 2, 3, 4, 5, 6] rfl (ci := 2) rfl rfl (q0 := 0) rfl rfl hl.1 rfl (Nat.le_of_ble_eq_true rfl) dX1_find_32 ⟨Nat.zero_le _, Nat.zero_le _⟩ (fun r5 hr5 => ?_)
            subst hr5
            exact rt_i hx hb hr hlocks dX1_find_35 (by unfold q_find; rw [if_neg (by omega), hq, fdF_t (by omega) c4])
    refine lv_aload_n hx hb dX1_find_9 rfl (lv_at hl 0 rfl) ?_
    refine va_get (D := D) (ci := 2) (v := .int (nI ec)) (C := RX1) (T := TX1) (N := 7) hx hb hts hinX1 hown hK hP 0 rfl rfl 6 (by decide) (hts (.fieldLink RX1 20 "PuzzleBook" "entryCount" "I") (by decide +kernel)) (fun _ h9 => h9) rfl dX1_find_10 ?_
    refine lv_iconst (v := nI 1) hx hb dX1_find_13 (by decide +kernel) ?_
    refine lv_isub hx hb dX1_find_14 ?_
    refine lv_istore_n (lv' := [(3, .int (nI ec - nI 1)), (0, .ref b0), (1, .int nv), (2, .int iv)]) hx hb dX1_find_15 rfl hl (by decide) rfl (fun ls hl => ?_)
    exact loop (ec + 1) ec (by omega) (by omega) rfl ls (lv_sub hl [0, 1, 2, 3] rfl)
  · skip
    refine lv_iconst (v := -1) hx hb dX1_find_7 (by decide +kernel) ?_
    exact rt_i hx hb hr hlocks dX1_find_8 (by unfold q_find; rw [if_pos (by omega)])
set_option maxRecDepth 100000 in
set_option maxHeartbeats 4000000 in
/-- entry(k, what) -/
theorem c_X1_entry (l : Launch) (D : va_G) (b0 b1 b2 a0 a1 a2 a3 : Nat) (cB cI : ClassId) (n : Nat) (L : Lg) (fd : Nat → Nat) (fc : Nat) (op : Nat) (tn : Nat) (eb : Nat → Nat) (ec : Nat) (kv wv : Int32) (kz wz : Int) (hn : n ≤ 64) (hg : ∀ j, L.1 j < 256) (he : ec ≤ 40) (hE : ∀ k, bO eb ec k < n) (ho : op ≤ 1) (h1 : kv.toInt = kz) (h2 : wv.toInt = wz) : Met l yX1_entry wsX1_entry ({ frames := 3, cells := 0, slots := 0, locals := 66 }) (rP [.ref b0, .int kv, .int wv] D (bW b0 b1 b2 a0 a1 a2 a3 cB cI n L fd fc op tn eb ec) (ty2 cB cI)) (vp_Si (fun r => r = q_entry L.1 (bO eb ec) op ec kz wz)) 0 0 (fun _ => False) := by
  refine met_r (by decide) rfl (Nat.le_of_ble_eq_true rfl) ?_
  intro p e s m below meth c hx hb hml hr hlocks hown hts hP hK ls hl
  have hown : s.vm.findClass RX1 = some m.cls := hown
  have hinX1 : ∀ w ∈ u_ws RX1 TX1 7, w ∈ wsX1_entry := by decide +kernel
  have hinX0 : ∀ w ∈ u_ws RX0 TX0 5, w ∈ wsX1_entry := by decide +kernel
  have hl : lv_has ls 3 [(0, .ref b0), (1, .int kv), (2, .int wv)] := hl
  refine lv_aload_n hx hb dX1_entry_0 rfl (lv_at hl 0 rfl) ?_
  refine lv_iload_n hx hb dX1_entry_1 rfl (lv_at hl 1 rfl) ?_
  refine rd_V (As := [.int kv]) (rest := []) ⟨hx, hb, hml, hown, hts⟩ (c_X1_isEntry l D b0 b1 b2 a0 a1 a2 a3 cB cI n L fd fc op tn eb ec kv kz ho he h1) (cwV 1 hts gX1_entry_X1_isEntry rfl rfl rfl (by decide +kernel) ⟨Nat.le_of_ble_eq_true rfl, Nat.le_of_ble_eq_true rfl⟩) hK hP [0, 1, 2, 3, 4, 5, 6] rfl (ci := 2) rfl rfl (q0 := 0) rfl rfl hl.1 rfl (Nat.le_of_ble_eq_true rfl) dX1_entry_2 ⟨Nat.zero_le _, Nat.zero_le _⟩ (fun r1 hr1 => ?_)
  subst hr1
  by_cases q2 : (op ≠ 0 ∧ 0 ≤ kz ∧ kz < ((ec : Nat) : Int))
  · skip
    refine lv_as (y := nI 1) (congrArg nI (b01_t q2)) ?_
    refine j0_ne (tgt := 10) hx hb (nI_toInt (n := 1) (by decide)) dX1_entry_5 (by decide) (fun c3 => ?_) (fun c3 => absurd c3 (by omega))
    obtain ⟨j, hj⟩ : ∃ j : Nat, kz = (j : Int) := ⟨kz.toNat, by omega⟩
    have hj2 : kv = nI j := Int32.toInt_inj.mp (by rw [h1, hj, nI_toInt (by omega)])
    have hj3 : kz.toNat = j := by omega
    refine lv_iload_n hx hb dX1_entry_10 rfl (lv_at hl 2 rfl) ?_
    by_cases w9 : wz = 0
    · skip
      refine lv_tableIn (off := 25) (tgt := 36) hx hb dX1_entry_11 (by rw [h2, w9]; decide) (by rw [h2, w9]; decide) (by rw [h2, w9]; rfl) (by decide) ?_
      refine lv_aload_n hx hb dX1_entry_36 rfl (lv_at hl 0 rfl) ?_
      refine lv_iload_n hx hb dX1_entry_37 rfl (lv_at hl 1 rfl) ?_
      refine lv_as (y := nI j) hj2 ?_
      refine rd_V (As := [.int (nI j)]) (rest := []) ⟨hx, hb, hml, hown, hts⟩ (c_X1_nameOf l D b0 b1 b2 a0 a1 a2 a3 cB cI n L fd fc op tn eb ec j hn hg he hE (by omega)) (cwV 1 hts gX1_entry_X1_nameOf rfl rfl rfl (by decide +kernel) ⟨Nat.le_of_ble_eq_true rfl, Nat.le_of_ble_eq_true rfl⟩) hK hP [0, 1, 2, 3, 4, 5, 6] rfl (ci := 2) rfl rfl (q0 := 0) rfl rfl hl.1 rfl (Nat.le_of_ble_eq_true rfl) dX1_entry_38 ⟨Nat.zero_le _, Nat.zero_le _⟩ (fun r4 hr4 => ?_)
      subst hr4
      exact rt_i hx hb hr hlocks dX1_entry_41 (by unfold q_entry; rw [if_pos q2, w9, hj3]; rfl)
    · skip
      have x0 := w9
      by_cases w9 : wz = 1
      · skip
        refine lv_tableIn (off := 31) (tgt := 42) hx hb dX1_entry_11 (by rw [h2, w9]; decide) (by rw [h2, w9]; decide) (by rw [h2, w9]; rfl) (by decide) ?_
        refine lv_aload_n hx hb dX1_entry_42 rfl (lv_at hl 0 rfl) ?_
        refine lv_iload_n hx hb dX1_entry_43 rfl (lv_at hl 1 rfl) ?_
        refine lv_as (y := nI j) hj2 ?_
        refine rd_V (As := [.int (nI j)]) (rest := []) ⟨hx, hb, hml, hown, hts⟩ (c_X1_blockOf l D b0 b1 b2 a0 a1 a2 a3 cB cI n L fd fc op tn eb ec j he (by omega)) (cwV 1 hts gX1_entry_X1_blockOf rfl rfl rfl (by decide +kernel) ⟨Nat.le_of_ble_eq_true rfl, Nat.le_of_ble_eq_true rfl⟩) hK hP [0, 1, 2, 3, 4, 5, 6] rfl (ci := 2) rfl rfl (q0 := 0) rfl rfl hl.1 rfl (Nat.le_of_ble_eq_true rfl) dX1_entry_44 ⟨Nat.zero_le _, Nat.zero_le _⟩ (fun r5 hr5 => ?_)
        subst hr5
        exact rt_i hx hb hr hlocks dX1_entry_47 (by unfold q_entry; rw [if_pos q2, w9, hj3]; rfl)
      · skip
        have x1 := w9
        by_cases w9 : wz = 2
        · skip
          refine lv_tableIn (off := 37) (tgt := 48) hx hb dX1_entry_11 (by rw [h2, w9]; decide) (by rw [h2, w9]; decide) (by rw [h2, w9]; rfl) (by decide) ?_
          refine lv_aload_n hx hb dX1_entry_48 rfl (lv_at hl 0 rfl) ?_
          refine lv_iload_n hx hb dX1_entry_49 rfl (lv_at hl 1 rfl) ?_
          refine lv_as (y := nI j) hj2 ?_
          refine rd_V (As := [.int (nI j)]) (rest := []) ⟨hx, hb, hml, hown, hts⟩ (c_X1_lengthOf l D b0 b1 b2 a0 a1 a2 a3 cB cI n L fd fc op tn eb ec j hn hg he hE (by omega)) (cwV 1 hts gX1_entry_X1_lengthOf rfl rfl rfl (by decide +kernel) ⟨Nat.le_of_ble_eq_true rfl, Nat.le_of_ble_eq_true rfl⟩) hK hP [0, 1, 2, 3, 4, 5, 6] rfl (ci := 2) rfl rfl (q0 := 0) rfl rfl hl.1 rfl (Nat.le_of_ble_eq_true rfl) dX1_entry_50 ⟨Nat.zero_le _, Nat.zero_le _⟩ (fun r6 hr6 => ?_)
          subst hr6
          exact rt_i hx hb hr hlocks dX1_entry_53 (by unfold q_entry; rw [if_pos q2, w9, hj3]; rfl)
        · skip
          have x2 := w9
          refine lv_tableOut (tgt := 54) hx hb dX1_entry_11 (by rw [h2]; omega) (by decide) ?_
          refine lv_iconst (v := -1) hx hb dX1_entry_54 (by decide +kernel) ?_
          exact rt_i hx hb hr hlocks dX1_entry_55 (by unfold q_entry; rw [if_pos q2, if_neg x0, if_neg x1, if_neg x2])
  · skip
    refine lv_as (y := nI 0) (congrArg nI (b01_f q2)) ?_
    refine j0_ne (tgt := 10) hx hb (nI_toInt (n := 0) (by decide)) dX1_entry_5 (by decide) (fun c7 => absurd c7 (by omega)) (fun c7 => ?_)
    refine lv_iconst (v := -1) hx hb dX1_entry_8 (by decide +kernel) ?_
    exact rt_i hx hb hr hlocks dX1_entry_9 (by unfold q_entry; rw [if_neg q2])
set_option maxRecDepth 100000 in
set_option maxHeartbeats 4000000 in
/-- free() -/
theorem c_X1_free (l : Launch) (D : va_G) (b0 b1 b2 a0 a1 a2 a3 : Nat) (cB cI : ClassId) (n : Nat) (L : Lg) (fd : Nat → Nat) (fc : Nat) (op : Nat) (tn : Nat) (eb : Nat → Nat) (ec : Nat)  (ho : op ≤ 1) : Met l yX1_free wsX1_free ({ frames := 1, cells := 0, slots := 0, locals := 20 }) (rP [.ref b0] D (bW b0 b1 b2 a0 a1 a2 a3 cB cI n L fd fc op tn eb ec) (ty2 cB cI)) (vp_Si (fun r => r = q_free op n ec)) 0 0 (fun _ => False) := by
  refine met_r (by decide) rfl (Nat.le_of_ble_eq_true rfl) ?_
  intro p e s m below meth c hx hb hml hr hlocks hown hts hP hK ls hl
  have hown : s.vm.findClass RX1 = some m.cls := hown
  have hinX1 : ∀ w ∈ u_ws RX1 TX1 7, w ∈ wsX1_free := by decide +kernel
  have hinX0 : ∀ w ∈ u_ws RX0 TX0 5, w ∈ wsX1_free := by decide +kernel
  have hl : lv_has ls 1 [(0, .ref b0)] := hl
  refine lv_aload_n hx hb dX1_free_0 rfl (lv_at hl 0 rfl) ?_
  refine va_get (D := D) (ci := 2) (v := .int (nI op)) (C := RX1) (T := TX1) (N := 7) hx hb hts hinX1 hown hK hP 0 rfl rfl 3 (by decide) (hts (.fieldLink RX1 45 "PuzzleBook" "isOpen" "Z") (by decide +kernel)) (fun _ h9 => h9) rfl dX1_free_1 ?_
  refine j0_eq (tgt := 24) hx hb (nI_toInt (n := op) (by omega)) dX1_free_4 (by decide) (fun c1 => ?_) (fun c1 => ?_)
  · skip
    refine lv_iconst (v := -1) hx hb dX1_free_24 (by decide +kernel) ?_
    exact rt_i hx hb hr hlocks dX1_free_25 (by unfold q_free; rw [if_pos (by omega)])
  · skip
    refine lv_aload_n hx hb dX1_free_7 rfl (lv_at hl 0 rfl) ?_
    refine va_get (D := D) (ci := 2) (v := .ref a0) (C := RX1) (T := TX1) (N := 7) hx hb hts hinX1 hown hK hP 0 rfl rfl 0 (by decide) (hts (.fieldLink RX1 28 "PuzzleBook" "store" "LPuzzleBook$Store;") (by decide +kernel)) (fun _ h9 => h9) rfl dX1_free_8 ?_
    refine rd_V (As := []) (rest := []) ⟨hx, hb, hml, hown, hts⟩ (c_X0_blockCount l D a0 a1 a2 a3 cB cI n L  ) (cwV 0 hts gX1_free_X0_blockCount rfl rfl rfl (by decide +kernel) ⟨Nat.le_of_ble_eq_true rfl, Nat.le_of_ble_eq_true rfl⟩) hK hP [3, 4, 5, 6] rfl (ci := 1) rfl rfl (q0 := 3) rfl rfl hl.1 rfl (Nat.le_of_ble_eq_true rfl) dX1_free_11 ⟨Nat.zero_le _, Nat.zero_le _⟩ (fun r2 hr2 => ?_)
    subst hr2
    refine lv_iconst (v := nI 3) hx hb dX1_free_14 (by decide +kernel) ?_
    refine lv_isub hx hb dX1_free_15 ?_
    refine lv_aload_n hx hb dX1_free_16 rfl (lv_at hl 0 rfl) ?_
    refine va_get (D := D) (ci := 2) (v := .int (nI ec)) (C := RX1) (T := TX1) (N := 7) hx hb hts hinX1 hown hK hP 0 rfl rfl 6 (by decide) (hts (.fieldLink RX1 20 "PuzzleBook" "entryCount" "I") (by decide +kernel)) (fun _ h9 => h9) rfl dX1_free_17 ?_
    refine lv_isub hx hb dX1_free_20 ?_
    refine lv_goto (tgt := 25) hx hb dX1_free_21 (by decide) ?_
    exact rt_i hx hb hr hlocks dX1_free_25 (by unfold q_free; rw [if_neg (by omega)])
set_option maxRecDepth 100000 in
set_option maxHeartbeats 4000000 in
/-- root() -/
theorem c_X1_root (l : Launch) (D : va_G) (b0 b1 b2 a0 a1 a2 a3 : Nat) (cB cI : ClassId) (n : Nat) (L : Lg) (fd : Nat → Nat) (fc : Nat) (op : Nat) (tn : Nat) (eb : Nat → Nat) (ec : Nat)  (ho : op ≤ 1) : Met l yX1_root wsX1_root ({ frames := 0, cells := 0, slots := 0, locals := 0 }) (rP [.ref b0] D (bW b0 b1 b2 a0 a1 a2 a3 cB cI n L fd fc op tn eb ec) (ty2 cB cI)) (vp_Si (fun r => r = q_root op tn)) 0 0 (fun _ => False) := by
  refine met_r (by decide) rfl (Nat.le_of_ble_eq_true rfl) ?_
  intro p e s m below meth c hx hb hml hr hlocks hown hts hP hK ls hl
  have hown : s.vm.findClass RX1 = some m.cls := hown
  have hinX1 : ∀ w ∈ u_ws RX1 TX1 7, w ∈ wsX1_root := by decide +kernel
  have hl : lv_has ls 1 [(0, .ref b0)] := hl
  refine lv_aload_n hx hb dX1_root_0 rfl (lv_at hl 0 rfl) ?_
  refine va_get (D := D) (ci := 2) (v := .int (nI op)) (C := RX1) (T := TX1) (N := 7) hx hb hts hinX1 hown hK hP 0 rfl rfl 3 (by decide) (hts (.fieldLink RX1 45 "PuzzleBook" "isOpen" "Z") (by decide +kernel)) (fun _ h9 => h9) rfl dX1_root_1 ?_
  refine j0_eq (tgt := 14) hx hb (nI_toInt (n := op) (by omega)) dX1_root_4 (by decide) (fun c1 => ?_) (fun c1 => ?_)
  · skip
    refine lv_iconst (v := -1) hx hb dX1_root_14 (by decide +kernel) ?_
    exact rt_i hx hb hr hlocks dX1_root_15 (by unfold q_root; rw [if_pos (by omega)])
  · skip
    refine lv_aload_n hx hb dX1_root_7 rfl (lv_at hl 0 rfl) ?_
    refine va_get (D := D) (ci := 2) (v := .int (nI tn)) (C := RX1) (T := TX1) (N := 7) hx hb hts hinX1 hown hK hP 0 rfl rfl 4 (by decide) (hts (.fieldLink RX1 32 "PuzzleBook" "turn" "I") (by decide +kernel)) (fun _ h9 => h9) rfl dX1_root_8 ?_
    refine lv_goto (tgt := 15) hx hb dX1_root_11 (by decide) ?_
    exact rt_i hx hb hr hlocks dX1_root_15 (by unfold q_root; rw [if_neg (by omega)])
set_option maxRecDepth 100000 in
set_option maxHeartbeats 4000000 in
/-- badAt() -/
theorem c_X1_badAt (l : Launch) (D : va_G) (b0 b1 b2 a0 a1 a2 a3 : Nat) (cB cI : ClassId) (n : Nat) (L : Lg) (fd : Nat → Nat) (fc : Nat) (op : Nat) (tn : Nat) (eb : Nat → Nat) (ec : Nat)  (hn : n ≤ 64) (hg : ∀ j, L.1 j < 256) (he : ec ≤ 40) (hE : ∀ k, bO eb ec k < n) (ho : op ≤ 1) (ht : op ≠ 0 → tn < n) : Met l yX1_badAt wsX1_badAt ({ frames := 4, cells := 0, slots := 0, locals := 91 }) (rP [.ref b0] D (bW b0 b1 b2 a0 a1 a2 a3 cB cI n L fd fc op tn eb ec) (ty2 cB cI)) (vp_Si (fun r => r = q_bad L.1 (bO eb ec) op tn ec)) 0 0 (fun _ => False) := by
  refine met_r (by decide) rfl (Nat.le_of_ble_eq_true rfl) ?_
  intro p e s m below meth c hx hb hml hr hlocks hown hts hP hK ls hl
  have hown : s.vm.findClass RX1 = some m.cls := hown
  have hinX1 : ∀ w ∈ u_ws RX1 TX1 7, w ∈ wsX1_badAt := by decide +kernel
  have hinX0 : ∀ w ∈ u_ws RX0 TX0 5, w ∈ wsX1_badAt := by decide +kernel
  have hl : lv_has ls 4 [(0, .ref b0)] := hl
  have h64 : ∀ k, bO eb ec k < 64 := fun k => Nat.lt_of_lt_of_le (hE k) hn
  refine lv_aload_n hx hb dX1_badAt_0 rfl (lv_at hl 0 rfl) ?_
  refine va_get (D := D) (ci := 2) (v := .int (nI op)) (C := RX1) (T := TX1) (N := 7) hx hb hts hinX1 hown hK hP 0 rfl rfl 3 (by decide) (hts (.fieldLink RX1 45 "PuzzleBook" "isOpen" "Z") (by decide +kernel)) (fun _ h9 => h9) rfl dX1_badAt_1 ?_
  refine j0_ne (tgt := 9) hx hb (nI_toInt (n := op) (by omega)) dX1_badAt_4 (by decide) (fun c1 => ?_) (fun c1 => ?_)
  · skip
    have t9 := ht (by omega)
    refine lv_aload_n hx hb dX1_badAt_9 rfl (lv_at hl 0 rfl) ?_
    refine va_get (D := D) (ci := 2) (v := .ref a0) (C := RX1) (T := TX1) (N := 7) hx hb hts hinX1 hown hK hP 0 rfl rfl 0 (by decide) (hts (.fieldLink RX1 28 "PuzzleBook" "store" "LPuzzleBook$Store;") (by decide +kernel)) (fun _ h9 => h9) rfl dX1_badAt_10 ?_
    refine lv_aload_n hx hb dX1_badAt_13 rfl (lv_at hl 0 rfl) ?_
    refine va_get (D := D) (ci := 2) (v := .int (nI tn)) (C := RX1) (T := TX1) (N := 7) hx hb hts hinX1 hown hK hP 0 rfl rfl 4 (by decide) (hts (.fieldLink RX1 32 "PuzzleBook" "turn" "I") (by decide +kernel)) (fun _ h9 => h9) rfl dX1_badAt_14 ?_
    refine rd_V (As := [.int (nI tn)]) (rest := []) ⟨hx, hb, hml, hown, hts⟩ (c_X0_hasRightSum l D a0 a1 a2 a3 cB cI n L tn hn hg t9) (cwV 1 hts gX1_badAt_X0_hasRightSum rfl rfl rfl (by decide +kernel) ⟨Nat.le_of_ble_eq_true rfl, Nat.le_of_ble_eq_true rfl⟩) hK hP [3, 4, 5, 6] rfl (ci := 1) rfl rfl (q0 := 3) rfl rfl hl.1 rfl (Nat.le_of_ble_eq_true rfl) dX1_badAt_17 ⟨Nat.zero_le _, Nat.zero_le _⟩ (fun r2 hr2 => ?_)
    subst hr2
    by_cases q3 : (okS L.1 (64 * tn))
    · skip
      refine lv_as (y := nI 1) (congrArg nI (b01_t q3)) ?_
      refine j0_ne (tgt := 28) hx hb (nI_toInt (n := 1) (by decide)) dX1_badAt_20 (by decide) (fun c4 => ?_) (fun c4 => absurd c4 (by omega))
      have loop : ∀ (fu k : Nat) (sv : Int32), k ≤ ec → ec - k < fu → sv = lwI (lwN (fun b => ¬ okS L.1 (64 * b)) (bO eb ec) k) → ∀ ls : Array Slot, lv_has ls 4 [(1, .int sv), (2, .int (nI k)), (0, .ref b0)] → W p l e ({ frames := 4, cells := 0, slots := 0, locals := 91 }) s m [.ref b0].toArray below meth c s.heap [] 0 0 (MQ below (vp_Si (fun r => r = q_bad L.1 (bO eb ec) op tn ec)) [.ref b0].toArray s 0 0 (fun _ => False)) (F0 m 32 ls []) := by
        intro fu
        induction fu with
        | zero => intro k sv hk hf; omega
        | succ fu ih =>
          intro k sv hk hfu hs ls hl
          refine lv_iload_n hx hb dX1_badAt_32 rfl (lv_at hl 1 rfl) ?_
          refine lv_aload_n hx hb dX1_badAt_33 rfl (lv_at hl 2 rfl) ?_
          refine va_get (D := D) (ci := 2) (v := .int (nI ec)) (C := RX1) (T := TX1) (N := 7) hx hb hts hinX1 hown hK hP 0 rfl rfl 6 (by decide) (hts (.fieldLink RX1 20 "PuzzleBook" "entryCount" "I") (by decide +kernel)) (fun _ h9 => h9) rfl dX1_badAt_34 ?_
          refine jb_ge (tgt := 69) hx hb (nI_toInt (n := k) (by omega)) (nI_toInt (n := ec) (by omega)) dX1_badAt_37 (by decide) (fun c5 => ?_) (fun c5 => ?_)
          · skip
            refine lv_iload_n hx hb dX1_badAt_69 rfl (lv_at hl 0 rfl) ?_
            have hk9 : k = ec := by omega
            rw [hk9] at hs
            exact rt_i hx hb hr hlocks dX1_badAt_70 (by unfold q_bad; rw [if_neg (by omega), if_pos q3]; exact hs)
          · skip
            refine lv_aload_n hx hb dX1_badAt_40 rfl (lv_at hl 2 rfl) ?_
            refine lv_iload_n hx hb dX1_badAt_41 rfl (lv_at hl 1 rfl) ?_
            refine rd_V (As := [.int (nI k)]) (rest := []) ⟨hx, hb, hml, hown, hts⟩ (c_X1_blockOf l D b0 b1 b2 a0 a1 a2 a3 cB cI n L fd fc op tn eb ec k he (by omega)) (cwV 1 hts gX1_badAt_X1_blockOf rfl rfl rfl (by decide +kernel) ⟨Nat.le_of_ble_eq_true rfl, Nat.le_of_ble_eq_true rfl⟩) hK hP [0, 1, 2, 3, 4, 5, 6] rfl (ci := 2) rfl rfl (q0 := 0) rfl rfl hl.1 rfl (Nat.le_of_ble_eq_true rfl) dX1_badAt_42 ⟨Nat.zero_le _, Nat.zero_le _⟩ (fun r6 hr6 => ?_)
            subst hr6
            refine lv_istore_n (lv' := [(3, .int (nI (bO eb ec k))), (1, .int sv), (2, .int (nI k)), (0, .ref b0)]) hx hb dX1_badAt_45 rfl hl (by decide) rfl (fun ls hl => ?_)
            refine lv_aload_n hx hb dX1_badAt_46 rfl (lv_at hl 3 rfl) ?_
            refine va_get (D := D) (ci := 2) (v := .ref a0) (C := RX1) (T := TX1) (N := 7) hx hb hts hinX1 hown hK hP 0 rfl rfl 0 (by decide) (hts (.fieldLink RX1 28 "PuzzleBook" "store" "LPuzzleBook$Store;") (by decide +kernel)) (fun _ h9 => h9) rfl dX1_badAt_47 ?_
            refine lv_iload_n hx hb dX1_badAt_50 rfl (lv_at hl 0 rfl) ?_
            refine rd_V (As := [.int (nI (bO eb ec k))]) (rest := []) ⟨hx, hb, hml, hown, hts⟩ (c_X0_hasRightSum l D a0 a1 a2 a3 cB cI n L (bO eb ec k) hn hg (hE _)) (cwV 1 hts gX1_badAt_X0_hasRightSum rfl rfl rfl (by decide +kernel) ⟨Nat.le_of_ble_eq_true rfl, Nat.le_of_ble_eq_true rfl⟩) hK hP [3, 4, 5, 6] rfl (ci := 1) rfl rfl (q0 := 3) rfl rfl hl.1 rfl (Nat.le_of_ble_eq_true rfl) dX1_badAt_51 ⟨Nat.zero_le _, Nat.zero_le _⟩ (fun r7 hr7 => ?_)
            subst hr7
            by_cases q8 : (okS L.1 (64 * (bO eb ec k)))
            · skip
              refine lv_as (y := nI 1) (congrArg nI (b01_t q8)) ?_
              refine j0_ne (tgt := 63) hx hb (nI_toInt (n := 1) (by decide)) dX1_badAt_54 (by decide) (fun c9 => ?_) (fun c9 => absurd c9 (by omega))
              refine lv_iinc (v := nI (k + 1)) (lv' := [(2, .int (nI (k + 1))), (3, .int (nI (bO eb ec k))), (1, .int sv), (0, .ref b0)]) hx hb dX1_badAt_63 hl (k := 2) rfl (nI_add _ 1) (by decide) rfl (fun ls hl => ?_)
              refine lv_goto (tgt := 32) hx hb dX1_badAt_66 (by decide) ?_
              exact ih (k + 1) _ (by omega) (by omega) (lw_skip (fun z => z q8) hs) ls (lv_sub hl [2, 0, 3] rfl)
            · skip
              refine lv_as (y := nI 0) (congrArg nI (b01_f q8)) ?_
              refine j0_ne (tgt := 63) hx hb (nI_toInt (n := 0) (by decide)) dX1_badAt_54 (by decide) (fun c10 => absurd c10 (by omega)) (fun c10 => ?_)
              by_cases q9 : lwN (fun b => ¬ okS L.1 (64 * b)) (bO eb ec) k = 1000
              · skip
                refine lv_iload_n hx hb dX1_badAt_57 rfl (lv_at hl 1 rfl) ?_
                refine lv_as (y := (-1)) (by rw [hs]; unfold lwI; rw [if_pos q9]) ?_
                refine lv_iload_n hx hb dX1_badAt_58 rfl (lv_at hl 0 rfl) ?_
                refine rd_S (As := [.int (-1), .int (nI (bO eb ec k))]) (rest := []) ⟨hx, hb, hml, hown, hts⟩ (c_X1_lesserBlock l D  cB cI  (bO eb ec k) ) (va_cwS 2 hts gX1_badAt_X1_lesserBlock rfl rfl rfl (by decide +kernel) ⟨Nat.le_of_ble_eq_true rfl, Nat.le_of_ble_eq_true rfl⟩) hK hP [] rfl rfl hl.1 rfl (Nat.le_of_ble_eq_true rfl) dX1_badAt_59 ⟨Nat.zero_le _, Nat.zero_le _⟩ (fun r11 hr11 => ?_)
                subst hr11
                refine lv_istore_n (lv' := [(1, .int (nI (bO eb ec k))), (3, .int (nI (bO eb ec k))), (2, .int (nI k)), (0, .ref b0)]) hx hb dX1_badAt_62 rfl hl (by decide) rfl (fun ls hl => ?_)
                refine lv_iinc (v := nI (k + 1)) (lv' := [(2, .int (nI (k + 1))), (1, .int (nI (bO eb ec k))), (3, .int (nI (bO eb ec k))), (0, .ref b0)]) hx hb dX1_badAt_63 hl (k := 2) rfl (nI_add _ 1) (by decide) rfl (fun ls hl => ?_)
                refine lv_goto (tgt := 32) hx hb dX1_badAt_66 (by decide) ?_
                exact ih (k + 1) _ (by omega) (by omega) (lw_none q9 q8 h64) ls (lv_sub hl [1, 0, 3] rfl)
              · skip
                have l64 := (lwN_or (P := (fun b => ¬ okS L.1 (64 * b))) (E := (bO eb ec)) h64 k).resolve_left q9
                refine lv_iload_n hx hb dX1_badAt_57 rfl (lv_at hl 1 rfl) ?_
                refine lv_as (y := nI (lwN (fun b => ¬ okS L.1 (64 * b)) (bO eb ec) k)) (by rw [hs]; unfold lwI; rw [if_neg q9]) ?_
                refine lv_iload_n hx hb dX1_badAt_58 rfl (lv_at hl 0 rfl) ?_
                refine rd_S (As := [.int (nI (lwN (fun b => ¬ okS L.1 (64 * b)) (bO eb ec) k)), .int (nI (bO eb ec k))]) (rest := []) ⟨hx, hb, hml, hown, hts⟩ (c_X1_lesserBlock_s l D  cB cI  (lwN (fun b => ¬ okS L.1 (64 * b)) (bO eb ec) k) (bO eb ec k) (by omega) (by have := h64 k; omega)) (va_cwS 2 hts gX1_badAt_X1_lesserBlock rfl rfl rfl (by decide +kernel) ⟨Nat.le_of_ble_eq_true rfl, Nat.le_of_ble_eq_true rfl⟩) hK hP [] rfl rfl hl.1 rfl (Nat.le_of_ble_eq_true rfl) dX1_badAt_59 ⟨Nat.zero_le _, Nat.zero_le _⟩ (fun r12 hr12 => ?_)
                subst hr12
                refine lv_istore_n (lv' := [(1, .int (nI (min (lwN (fun b => ¬ okS L.1 (64 * b)) (bO eb ec) k) (bO eb ec k)))), (3, .int (nI (bO eb ec k))), (2, .int (nI k)), (0, .ref b0)]) hx hb dX1_badAt_62 rfl hl (by decide) rfl (fun ls hl => ?_)
                refine lv_iinc (v := nI (k + 1)) (lv' := [(2, .int (nI (k + 1))), (1, .int (nI (min (lwN (fun b => ¬ okS L.1 (64 * b)) (bO eb ec) k) (bO eb ec k)))), (3, .int (nI (bO eb ec k))), (0, .ref b0)]) hx hb dX1_badAt_63 hl (k := 2) rfl (nI_add _ 1) (by decide) rfl (fun ls hl => ?_)
                refine lv_goto (tgt := 32) hx hb dX1_badAt_66 (by decide) ?_
                exact ih (k + 1) _ (by omega) (by omega) (lw_some q9 q8 h64) ls (lv_sub hl [1, 0, 3] rfl)
      refine lv_iconst (v := -1) hx hb dX1_badAt_28 (by decide +kernel) ?_
      refine lv_istore_n (lv' := [(1, .int (-1)), (0, .ref b0)]) hx hb dX1_badAt_29 rfl hl (by decide) rfl (fun ls hl => ?_)
      refine lv_iconst (v := nI 0) hx hb dX1_badAt_30 (by decide +kernel) ?_
      refine lv_istore_n (lv' := [(2, .int (nI 0)), (1, .int (-1)), (0, .ref b0)]) hx hb dX1_badAt_31 rfl hl (by decide) rfl (fun ls hl => ?_)
      exact loop (ec + 1) 0 _ (by omega) (by omega) rfl ls (lv_sub hl [1, 0, 2] rfl)
    · skip
      refine lv_as (y := nI 0) (congrArg nI (b01_f q3)) ?_
      refine j0_ne (tgt := 28) hx hb (nI_toInt (n := 0) (by decide)) dX1_badAt_20 (by decide) (fun c13 => absurd c13 (by omega)) (fun c13 => ?_)
      refine lv_aload_n hx hb dX1_badAt_23 rfl (lv_at hl 0 rfl) ?_
      refine va_get (D := D) (ci := 2) (v := .int (nI tn)) (C := RX1) (T := TX1) (N := 7) hx hb hts hinX1 hown hK hP 0 rfl rfl 4 (by decide) (hts (.fieldLink RX1 32 "PuzzleBook" "turn" "I") (by decide +kernel)) (fun _ h9 => h9) rfl dX1_badAt_24 ?_
      exact rt_i hx hb hr hlocks dX1_badAt_27 (by unfold q_bad; rw [if_neg (by omega), if_neg q3])
  · skip
    refine lv_iconst (v := -1) hx hb dX1_badAt_7 (by decide +kernel) ?_
    exact rt_i hx hb hr hlocks dX1_badAt_8 (by unfold q_bad; rw [if_pos (by omega)])
