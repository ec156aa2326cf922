/-! 20: the law's arm of byteAt (laid by wip/whole/gen/gen_law9.py) -/
set_option maxRecDepth 100000 in
set_option maxHeartbeats 4000000 in
theorem arm_9 {p : Program} {l : Launch} {e : Env} {s : State} {m : MethodId} {below : List Frame} {meth : Method} {c : Code} {b L0 : Nat} {xs : Nat → Int32} {D : va_G} {cB cI cL : ClassId} {b0 b1 b2 a0 a1 a2 a3 m0 m1 m2 m3 m4 m5 o0 k : Nat} {H : Heap} {locs : List Loc} {ls : Array Slot} {Q : State → Prop} (hfl : l.flags = flags0) (C : lawC p s m meth c b L0 xs D cB cI cL) (I : lawI s b D cB cI cL b0 b1 b2 a0 a1 a2 a3 m0 m1 m2 m3 m4 m5 o0 k H locs ls) (hk : 4 * k + 5 ≤ L0)
    (kk : ∀ (H : Heap) (locs : List Loc) (ls : Array Slot), lawI s b D cB cI cL b0 b1 b2 a0 a1 a2 a3 m0 m1 m2 m3 m4 m5 o0 k H locs ls → W p l e room_1 s m #[Value.ref b] below meth c H locs (14 + (k + 1)) (8909 + 6 * (k + 1)) Q (F0 m 455 ls [])) : W p l e room_1 s m #[Value.ref b] below meth c H locs (14 + k) (8909 + 6 * k) Q (F0 m 361 ls []) := by
  obtain ⟨hx, hb, hml, hr, hlocks, hown, htb, hX, hbl, hL0, hK, hSp⟩ := C
  obtain ⟨n, L, fd, fc, op, tn, eb, ec, L', tn', eb', ec', th, ov, J, hP, hD, hS, hl⟩ := I
  obtain ⟨⟨j1a, j1b⟩, ⟨j2a, j2b⟩, j3, j4, j5, ⟨j6a, j6b⟩, ⟨j7a, j7b⟩, ⟨j8a, j8b, j8c⟩, ⟨j9a, j9b⟩, j10⟩ := id J
  have hts : ∀ w ∈ wsL_law, w.before #[Value.ref b] s = true := fun w h => htb w (wsL_law_in w h)
  have hK2 : va_K D vwCl (ty2 cB cI) s := hK.sub [0, 1] rfl
  have hA : ∀ q : Nat, s.heap.size ≤ q → (fun q => s.heap.size ≤ q) q := fun q h => h
  have hbA : ¬ (fun q => s.heap.size ≤ q) b := Nat.not_le.mpr hbl
  have hg' : ∀ j, L'.1 j < 256 := fun j => by rw [j8a]; exact j2a j
  have ht : op ≠ 0 → tn = 1 ∨ tn = 2 := fun h => (j10 h).1
  have ht' : op ≠ 0 → tn' = 1 ∨ tn' = 2 := fun h => by rw [(j10 h).2.1]; exact (j10 h).1
  have hu : op ≠ 0 → tn < n := fun h => by have := ht h; omega
  have hu' : op ≠ 0 → tn' < n := fun h => by have := ht' h; omega
  have hp : op ≠ 0 → ∀ k, k < L.2.2.2 → L.2.1 k < 64 * n := fun h => (j10 h).2.2.2.2.2.1
  have hp' : op ≠ 0 → ∀ k, k < L'.2.2.2 → L'.2.1 k < 64 * n := fun h k hk => by rw [j8b]; exact hp h k (by have := (j10 h).2.2.2.2.1; omega)
  have hc1 : 14 + (k + 1) ≤ room_1.cells := by show 14 + (k + 1) ≤ 601024; omega
  have hc2 : 8909 + 6 * (k + 1) ≤ room_1.slots := by show 8909 + 6 * (k + 1) ≤ 7293000; omega
  have hAo : ∀ q : Nat, q < s.heap.size → ¬ (fun q => s.heap.size ≤ q) q := fun q h => Nat.not_le.mpr h
  have hiT : (Cond.initialized "java/lang/Throwable").before #[] s = true := htb (.initialized "java/lang/Throwable") (by decide +kernel)
  have hcwL : (Cond.codeWith yL_byteAt cL_byteAt 5 (some .int) [(0, 10, 13, 13)]).before #[Value.ref b] s = true := htb _ (by decide +kernel)
  have hiL : (Cond.initialized RL).before #[Value.ref b] s = true := htb (.initialized RL) (by decide +kernel)
  have hsL : (Cond.static yL_byteAt).before #[Value.ref b] s = true := htb (.static yL_byteAt) (by decide +kernel)
  have hmL : (Cond.methodLink RL 67 yL_byteAt).before #[Value.ref b] s = true := htb (.methodLink RL 67 yL_byteAt) (by decide +kernel)
  by_cases hh : (0 ≤ (xs (1 + 4 * k + 1)).toInt ∧ (xs (1 + 4 * k + 1)).toInt < (n : Int) ∧ 0 ≤ (xs (1 + 4 * k + 2)).toInt ∧ (xs (1 + 4 * k + 2)).toInt < 64)
  · skip
    have eb1 : xs (1 + 4 * k + 1) = nI (xs (1 + 4 * k + 1)).toInt.toNat := Int32.toInt_inj.mp (by rw [nI_toInt (by omega)]; omega)
    have eb2 : xs (1 + 4 * k + 2) = nI (xs (1 + 4 * k + 2)).toInt.toNat := Int32.toInt_inj.mp (by rw [nI_toInt (by omega)]; omega)
    refine lv_aload_n hx hb dL_law_361 rfl (lv_at hl 2 rfl) ?_
    refine lv_aload_n hx hb dL_law_362 rfl (lv_at hl 1 rfl) ?_
    refine lv_iload hx hb dL_law_363 (lv_at hl 0 rfl) ?_
    refine lv_iconst (v := nI 1) hx hb dL_law_365 (by decide +kernel) ?_
    refine lv_iadd hx hb dL_law_366 ?_
    refine lv_as (y := nI (1 + 4 * k + 1)) (nI_add _ _) ?_
    refine va_sld hx hb hX hbl hbA hS (i := nI (1 + 4 * k + 1)) (vp_in_nI (by omega) (by omega)) dL_law_367 ?_
    refine lv_as (y := xs (1 + 4 * k + 1)) (by rw [nI_clamp (by omega)]) ?_
    refine lv_as (y := nI (xs (1 + 4 * k + 1)).toInt.toNat) eb1 ?_
    refine lv_aload_n hx hb dL_law_368 rfl (lv_at hl 1 rfl) ?_
    refine lv_iload hx hb dL_law_369 (lv_at hl 0 rfl) ?_
    refine lv_iconst (v := nI 2) hx hb dL_law_371 (by decide +kernel) ?_
    refine lv_iadd hx hb dL_law_372 ?_
    refine lv_as (y := nI (1 + 4 * k + 2)) (nI_add _ _) ?_
    refine va_sld hx hb hX hbl hbA hS (i := nI (1 + 4 * k + 2)) (vp_in_nI (by omega) (by omega)) dL_law_373 ?_
    refine lv_as (y := xs (1 + 4 * k + 2)) (by rw [nI_clamp (by omega)]) ?_
    refine lv_as (y := nI (xs (1 + 4 * k + 2)).toInt.toNat) eb2 ?_
    refine lv_aload_n hx hb dL_law_374 rfl (lv_at hl 4 rfl) ?_
    refine lw_S (wr := (mW m0 m1 m2 m3 m4 m5 cB cI n L' fd fc op tn' eb' ec' th)) (wo := (jW b0 b1 b2 a0 a1 a2 a3 m0 m1 m2 m3 m4 m5 o0 cB cI cL n L fd fc op tn eb ec L' fd fc op tn' eb' ec' th (vp_updL ov 0 (lN (L.1 (64 * (xs (1 + 4 * k + 1)).toInt.toNat + (xs (1 + 4 * k + 2)).toInt.toNat)))))) (As := [.ref b0, .int (nI (xs (1 + 4 * k + 1)).toInt.toNat), .int (nI (xs (1 + 4 * k + 2)).toInt.toNat), .ref o0]) (rest := []) (hh := [(0, 10, 13, 13)]) (bytes := cL_byteAt) (maxL := 5) (ret := some .int) (n := 4) ⟨hx, hb, hml, hown, hts⟩ (c_L_byteAt l D b0 b1 b2 a0 a1 a2 a3 o0 cB cI cL n L fd fc op tn eb ec ov (xs (1 + 4 * k + 1)).toInt.toNat (xs (1 + 4 * k + 2)).toInt.toNat H.size j1b j2a (by omega) (by omega)) rfl rfl (Nat.le_of_ble_eq_true rfl) (Nat.le_of_ble_eq_true rfl) (payLT htb) (by decide +kernel) hcwL hiL hsL hmL ⟨by decide +kernel, by decide +kernel, by decide +kernel⟩ hK hSp hiT hAo hP hD hS hA [0, 1, 2, 3, 4, 5, 6, 13] [7, 8, 9, 10, 11, 12] rfl rfl rfl rfl (by decide) [6, 7, 8, 9, 10, 11, 12, 0, 1, 2, 3, 4, 5, 13] rfl rfl rfl hl.1 rfl (Nat.le_of_ble_eq_true rfl) dL_law_375 ⟨by omega, by omega⟩ (fun H locs hP hD hS => ?_)
    refine W.widen (k := 14 + (k + 1)) (n := 8909 + 6 * (k + 1)) (by omega) (by omega) ?_
    refine lv_istore (lv' := [(5, .int (nI 0)), (4, .int (nI (1 + 4 * k))), (0, .ref b), (1, .ref b0), (2, .ref m0), (3, .ref o0)]) hx hb dL_law_378 hl (by decide) rfl (fun ls hl => ?_)
    refine lv_aload_n hx hb dL_law_380 rfl (lv_at hl 4 rfl) ?_
    refine lv_aload_n hx hb dL_law_381 rfl (lv_at hl 2 rfl) ?_
    refine lv_iload hx hb dL_law_382 (lv_at hl 1 rfl) ?_
    refine lv_iconst (v := nI 1) hx hb dL_law_384 (by decide +kernel) ?_
    refine lv_iadd hx hb dL_law_385 ?_
    refine lv_as (y := nI (1 + 4 * k + 1)) (nI_add _ _) ?_
    refine va_sld hx hb hX hbl hbA hS (i := nI (1 + 4 * k + 1)) (vp_in_nI (by omega) (by omega)) dL_law_386 ?_
    refine lv_as (y := xs (1 + 4 * k + 1)) (by rw [nI_clamp (by omega)]) ?_
    refine lv_aload_n hx hb dL_law_387 rfl (lv_at hl 2 rfl) ?_
    refine lv_iload hx hb dL_law_388 (lv_at hl 1 rfl) ?_
    refine lv_iconst (v := nI 2) hx hb dL_law_390 (by decide +kernel) ?_
    refine lv_iadd hx hb dL_law_391 ?_
    refine lv_as (y := nI (1 + 4 * k + 2)) (nI_add _ _) ?_
    refine va_sld hx hb hX hbl hbA hS (i := nI (1 + 4 * k + 2)) (vp_in_nI (by omega) (by omega)) dL_law_392 ?_
    refine lv_as (y := xs (1 + 4 * k + 2)) (by rw [nI_clamp (by omega)]) ?_
    refine wr_Vi (wr := (bW b0 b1 b2 a0 a1 a2 a3 cB cI n L fd fc op tn eb ec) ++ [(o0, .inl (cL, 1, .inr (.inl (vp_updL ov 0 (lN (L.1 (64 * (xs (1 + 4 * k + 1)).toInt.toNat + (xs (1 + 4 * k + 2)).toInt.toNat)))))))]) (wo := (jW b0 b1 b2 a0 a1 a2 a3 m0 m1 m2 m3 m4 m5 o0 cB cI cL n L fd fc op tn eb ec L' fd fc op tn' eb' ec' (if (0 ≤ (xs (1 + 4 * k + 1)).toInt ∧ (xs (1 + 4 * k + 1)).toInt < (n : Int) ∧ 0 ≤ (xs (1 + 4 * k + 2)).toInt ∧ (xs (1 + 4 * k + 2)).toInt < 64) then 0 else 1) (vp_updL ov 0 (lN (L.1 (64 * (xs (1 + 4 * k + 1)).toInt.toNat + (xs (1 + 4 * k + 2)).toInt.toNat)))))) (As := [.int (xs (1 + 4 * k + 1)), .int (xs (1 + 4 * k + 2))]) (rest := []) ⟨hx, hb, hml, hown, hts⟩ (c_X2_byteAt l D m0 m1 m2 m3 m4 m5 cB cI n L' fd fc op tn' eb' ec' th (xs (1 + 4 * k + 1)) (xs (1 + 4 * k + 2)) (xs (1 + 4 * k + 1)).toInt (xs (1 + 4 * k + 2)).toInt H.size j1b rfl rfl) (cwV 2 hts gL_law_X2_byteAt rfl rfl rfl (by decide +kernel) ⟨Nat.le_of_ble_eq_true rfl, Nat.le_of_ble_eq_true rfl⟩) hK2 hP hD hS hA [7, 8, 9, 10, 11, 12] [0, 1, 2, 3, 4, 5, 6, 13] rfl rfl rfl rfl (by decide) [0, 1, 2, 3, 4, 5, 6, 8, 9, 10, 11, 12, 13, 7] rfl rfl (ci := 3) rfl rfl (q0 := 7) rfl rfl hl.1 rfl (Nat.le_of_ble_eq_true rfl) dL_law_393 ⟨hc1, hc2⟩ (fun H locs hP hD hS => ?_)
    refine lv_as (y := nI (L'.1 (64 * (xs (1 + 4 * k + 1)).toInt.toNat + (xs (1 + 4 * k + 2)).toInt.toNat))) (if_pos hh) ?_
    rw [if_pos hh] at hP hD
    refine lv_istore (lv' := [(6, .int (nI (L'.1 (64 * (xs (1 + 4 * k + 1)).toInt.toNat + (xs (1 + 4 * k + 2)).toInt.toNat)))), (5, .int (nI 0)), (4, .int (nI (1 + 4 * k))), (0, .ref b), (1, .ref b0), (2, .ref m0), (3, .ref o0)]) hx hb dL_law_396 hl (by decide) rfl (fun ls hl => ?_)
    refine lv_aload_n hx hb dL_law_398 rfl (lv_at hl 5 rfl) ?_
    refine rd_V (As := []) (rest := []) ⟨hx, hb, hml, hown, hts⟩ (c_X2_thrown l D m0 m1 m2 m3 m4 m5 cB cI n L' fd fc op tn' eb' ec' 0) (cwV 0 hts gL_law_X2_thrown rfl rfl rfl (by decide +kernel) ⟨Nat.le_of_ble_eq_true rfl, Nat.le_of_ble_eq_true rfl⟩) hK2 hP [7, 8, 9, 10, 11, 12] rfl (ci := 3) rfl rfl (q0 := 7) rfl rfl hl.1 rfl (Nat.le_of_ble_eq_true rfl) dL_law_399 ⟨hc1, hc2⟩ (fun r hr9 => ?_)
    subst hr9
    refine lv_iload hx hb dL_law_402 (lv_at hl 1 rfl) ?_
    refine lv_icmp_eq hx hb dL_law_404 (tgt := 409) (by decide) (fun _ => ?_) (fun h => absurd rfl h)
    refine lv_iload hx hb dL_law_409 (lv_at hl 1 rfl) ?_
    refine j0_ne (a := 0) hx hb (by decide +kernel) dL_law_411 (tgt := 426) (by decide) (fun h => absurd rfl h) (fun _ => ?_)
    refine lv_aload_n hx hb dL_law_414 rfl (lv_at hl 6 rfl) ?_
    refine lv_iconst (v := nI 0) hx hb dL_law_415 (by decide +kernel) ?_
    refine va_lald hx hb hK hP 13 2 rfl rfl (i := nI 0) (vp_in_nI (by decide) (by decide)) dL_law_416 ?_
    rw [show (vp_updL ov 0 (lN (L.1 (64 * (xs (1 + 4 * k + 1)).toInt.toNat + (xs (1 + 4 * k + 2)).toInt.toNat)))) (nI 0).toNatClampNeg = lN (L.1 (64 * (xs (1 + 4 * k + 1)).toInt.toNat + (xs (1 + 4 * k + 2)).toInt.toNat)) from by rw [nI_clamp (by decide)]; exact if_pos rfl]
    refine lv_iload hx hb dL_law_417 (lv_at hl 0 rfl) ?_
    have g9 := hg' (64 * (xs (1 + 4 * k + 1)).toInt.toNat + (xs (1 + 4 * k + 2)).toInt.toNat)
    refine lv_i2l (v := lN (L'.1 (64 * (xs (1 + 4 * k + 1)).toInt.toNat + (xs (1 + 4 * k + 2)).toInt.toNat))) hx hb dL_law_419 (nI_l (by omega)) ?_
    refine W.lcmp hx hb dL_law_420 ?_
    refine lv_as (y := nI 0) (by rw [j8a]; unfold lg_cmp; rw [if_neg (fun h => Int64.lt_irrefl h), if_pos rfl]; rfl) ?_
    refine j0_eq (a := 0) hx hb (by decide +kernel) dL_law_421 (tgt := 426) (by decide) (fun _ => ?_) (fun h => absurd rfl h)
    refine lv_goto (tgt := 455) hx hb dL_law_426 (by decide) ?_
    exact kk H locs ls ⟨_, _, _, _, _, _, _, _, _, _, _, _, _, _, J, hP, hD, hS, lv_sub hl [2, 3, 4, 5, 6] rfl⟩
  · skip
    refine lv_aload_n hx hb dL_law_361 rfl (lv_at hl 2 rfl) ?_
    refine lv_aload_n hx hb dL_law_362 rfl (lv_at hl 1 rfl) ?_
    refine lv_iload hx hb dL_law_363 (lv_at hl 0 rfl) ?_
    refine lv_iconst (v := nI 1) hx hb dL_law_365 (by decide +kernel) ?_
    refine lv_iadd hx hb dL_law_366 ?_
    refine lv_as (y := nI (1 + 4 * k + 1)) (nI_add _ _) ?_
    refine va_sld hx hb hX hbl hbA hS (i := nI (1 + 4 * k + 1)) (vp_in_nI (by omega) (by omega)) dL_law_367 ?_
    refine lv_as (y := xs (1 + 4 * k + 1)) (by rw [nI_clamp (by omega)]) ?_
    refine lv_aload_n hx hb dL_law_368 rfl (lv_at hl 1 rfl) ?_
    refine lv_iload hx hb dL_law_369 (lv_at hl 0 rfl) ?_
    refine lv_iconst (v := nI 2) hx hb dL_law_371 (by decide +kernel) ?_
    refine lv_iadd hx hb dL_law_372 ?_
    refine lv_as (y := nI (1 + 4 * k + 2)) (nI_add _ _) ?_
    refine va_sld hx hb hX hbl hbA hS (i := nI (1 + 4 * k + 2)) (vp_in_nI (by omega) (by omega)) dL_law_373 ?_
    refine lv_as (y := xs (1 + 4 * k + 2)) (by rw [nI_clamp (by omega)]) ?_
    refine lv_aload_n hx hb dL_law_374 rfl (lv_at hl 4 rfl) ?_
    refine lw_S (wr := (mW m0 m1 m2 m3 m4 m5 cB cI n L' fd fc op tn' eb' ec' th)) (wo := (jW b0 b1 b2 a0 a1 a2 a3 m0 m1 m2 m3 m4 m5 o0 cB cI cL n L fd fc op tn eb ec L' fd fc op tn' eb' ec' th ov)) (As := [.ref b0, .int (xs (1 + 4 * k + 1)), .int (xs (1 + 4 * k + 2)), .ref o0]) (rest := []) (hh := [(0, 10, 13, 13)]) (bytes := cL_byteAt) (maxL := 5) (ret := some .int) (n := 4) ⟨hx, hb, hml, hown, hts⟩ (t_L_byteAt l hfl D b0 b1 b2 a0 a1 a2 a3 o0 cB cI cL n L fd fc op tn eb ec ov (xs (1 + 4 * k + 1)) (xs (1 + 4 * k + 2)) (xs (1 + 4 * k + 1)).toInt (xs (1 + 4 * k + 2)).toInt H.size j1b rfl rfl hh) rfl rfl (Nat.le_of_ble_eq_true rfl) (Nat.le_of_ble_eq_true rfl) (payLT htb) (by decide +kernel) hcwL hiL hsL hmL ⟨by decide +kernel, by decide +kernel, by decide +kernel⟩ hK hSp hiT hAo hP hD hS hA [0, 1, 2, 3, 4, 5, 6, 13] [7, 8, 9, 10, 11, 12] rfl rfl rfl rfl (by decide) [6, 7, 8, 9, 10, 11, 12, 0, 1, 2, 3, 4, 5, 13] rfl rfl rfl hl.1 rfl (Nat.le_of_ble_eq_true rfl) dL_law_375 ⟨by omega, by omega⟩ (fun H locs hP hD hS => ?_)
    refine W.widen (k := 14 + (k + 1)) (n := 8909 + 6 * (k + 1)) (by omega) (by omega) ?_
    refine lv_istore (lv' := [(5, .int (nI 1)), (4, .int (nI (1 + 4 * k))), (0, .ref b), (1, .ref b0), (2, .ref m0), (3, .ref o0)]) hx hb dL_law_378 hl (by decide) rfl (fun ls hl => ?_)
    refine lv_aload_n hx hb dL_law_380 rfl (lv_at hl 4 rfl) ?_
    refine lv_aload_n hx hb dL_law_381 rfl (lv_at hl 2 rfl) ?_
    refine lv_iload hx hb dL_law_382 (lv_at hl 1 rfl) ?_
    refine lv_iconst (v := nI 1) hx hb dL_law_384 (by decide +kernel) ?_
    refine lv_iadd hx hb dL_law_385 ?_
    refine lv_as (y := nI (1 + 4 * k + 1)) (nI_add _ _) ?_
    refine va_sld hx hb hX hbl hbA hS (i := nI (1 + 4 * k + 1)) (vp_in_nI (by omega) (by omega)) dL_law_386 ?_
    refine lv_as (y := xs (1 + 4 * k + 1)) (by rw [nI_clamp (by omega)]) ?_
    refine lv_aload_n hx hb dL_law_387 rfl (lv_at hl 2 rfl) ?_
    refine lv_iload hx hb dL_law_388 (lv_at hl 1 rfl) ?_
    refine lv_iconst (v := nI 2) hx hb dL_law_390 (by decide +kernel) ?_
    refine lv_iadd hx hb dL_law_391 ?_
    refine lv_as (y := nI (1 + 4 * k + 2)) (nI_add _ _) ?_
    refine va_sld hx hb hX hbl hbA hS (i := nI (1 + 4 * k + 2)) (vp_in_nI (by omega) (by omega)) dL_law_392 ?_
    refine lv_as (y := xs (1 + 4 * k + 2)) (by rw [nI_clamp (by omega)]) ?_
    refine wr_Vi (wr := (bW b0 b1 b2 a0 a1 a2 a3 cB cI n L fd fc op tn eb ec) ++ [(o0, .inl (cL, 1, .inr (.inl ov)))]) (wo := (jW b0 b1 b2 a0 a1 a2 a3 m0 m1 m2 m3 m4 m5 o0 cB cI cL n L fd fc op tn eb ec L' fd fc op tn' eb' ec' (if (0 ≤ (xs (1 + 4 * k + 1)).toInt ∧ (xs (1 + 4 * k + 1)).toInt < (n : Int) ∧ 0 ≤ (xs (1 + 4 * k + 2)).toInt ∧ (xs (1 + 4 * k + 2)).toInt < 64) then 0 else 1) ov)) (As := [.int (xs (1 + 4 * k + 1)), .int (xs (1 + 4 * k + 2))]) (rest := []) ⟨hx, hb, hml, hown, hts⟩ (c_X2_byteAt l D m0 m1 m2 m3 m4 m5 cB cI n L' fd fc op tn' eb' ec' th (xs (1 + 4 * k + 1)) (xs (1 + 4 * k + 2)) (xs (1 + 4 * k + 1)).toInt (xs (1 + 4 * k + 2)).toInt H.size j1b rfl rfl) (cwV 2 hts gL_law_X2_byteAt rfl rfl rfl (by decide +kernel) ⟨Nat.le_of_ble_eq_true rfl, Nat.le_of_ble_eq_true rfl⟩) hK2 hP hD hS hA [7, 8, 9, 10, 11, 12] [0, 1, 2, 3, 4, 5, 6, 13] rfl rfl rfl rfl (by decide) [0, 1, 2, 3, 4, 5, 6, 8, 9, 10, 11, 12, 13, 7] rfl rfl (ci := 3) rfl rfl (q0 := 7) rfl rfl hl.1 rfl (Nat.le_of_ble_eq_true rfl) dL_law_393 ⟨hc1, hc2⟩ (fun H locs hP hD hS => ?_)
    refine lv_as (y := nI 0) (if_neg hh) ?_
    rw [if_neg hh] at hP hD
    refine lv_istore (lv' := [(6, .int (nI 0)), (5, .int (nI 1)), (4, .int (nI (1 + 4 * k))), (0, .ref b), (1, .ref b0), (2, .ref m0), (3, .ref o0)]) hx hb dL_law_396 hl (by decide) rfl (fun ls hl => ?_)
    refine lv_aload_n hx hb dL_law_398 rfl (lv_at hl 5 rfl) ?_
    refine rd_V (As := []) (rest := []) ⟨hx, hb, hml, hown, hts⟩ (c_X2_thrown l D m0 m1 m2 m3 m4 m5 cB cI n L' fd fc op tn' eb' ec' 1) (cwV 0 hts gL_law_X2_thrown rfl rfl rfl (by decide +kernel) ⟨Nat.le_of_ble_eq_true rfl, Nat.le_of_ble_eq_true rfl⟩) hK2 hP [7, 8, 9, 10, 11, 12] rfl (ci := 3) rfl rfl (q0 := 7) rfl rfl hl.1 rfl (Nat.le_of_ble_eq_true rfl) dL_law_399 ⟨hc1, hc2⟩ (fun r hr9 => ?_)
    subst hr9
    refine lv_iload hx hb dL_law_402 (lv_at hl 1 rfl) ?_
    refine lv_icmp_eq hx hb dL_law_404 (tgt := 409) (by decide) (fun _ => ?_) (fun h => absurd rfl h)
    refine lv_iload hx hb dL_law_409 (lv_at hl 1 rfl) ?_
    refine j0_ne (a := 1) hx hb (by decide +kernel) dL_law_411 (tgt := 426) (by decide) (fun _ => ?_) (fun h => absurd h (by decide))
    refine lv_goto (tgt := 455) hx hb dL_law_426 (by decide) ?_
    exact kk H locs ls ⟨_, _, _, _, _, _, _, _, _, _, _, _, _, _, J, hP, hD, hS, lv_sub hl [2, 3, 4, 5, 6] rfl⟩
