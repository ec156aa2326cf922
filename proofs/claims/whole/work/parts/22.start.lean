/-! 22: the law from its entry to its loop -/
theorem cellL0 (cA : ClassId) : vp_cell cA (1, .inr (.inl (fun _ => (0 : Int64)))) = arrV cA 1 (fun _ => defaultValue .long) := by
  rw [vp_cell_l]
  rfl
set_option maxRecDepth 100000 in
set_option maxHeartbeats 4000000 in
/-- from the entry, for every script of at most 2049 ints, the law comes to its end with true -/
theorem whole_start {p : Program} {e : Env} {s : State} {m : MethodId} {below : List Frame} {meth : Method} {c : Code} (l : Launch) (hfl : l.flags = flags0) {b L : Nat} {xs : Nat → Int32} (hL : L ≤ 2049) (C0 : lw_At p s m meth c b L xs) : W p l e room_1 s m #[Value.ref b] below meth c s.heap [] 0 0 (lw_Z below #[Value.ref b] s) (entryFrame m ([Value.ref b] : List Value).toArray 7) := by
  obtain ⟨hx, hb, hr, hml, hown, htb, hX, hbl, hlocks, hgv⟩ := id C0
  have hb : c.code = cL_law := hb
  have hown : s.vm.findClass RL = some m.cls := hown
  have hts : ∀ w ∈ wsL_law, w.before #[Value.ref b] s = true := fun w h => htb w (wsL_law_in w h)
  have hA : ∀ q : Nat, s.heap.size ≤ q → (fun q : Nat => s.heap.size ≤ q) q := fun _ h => h
  have hbA : ¬ (fun q : Nat => s.heap.size ≤ q) b := Nat.not_le.mpr hbl
  have hSp : spOK s := by
    have hf := flat_of_before _ hgv
    intro w hw a
    rcases List.mem_cons.mp hw with rfl | hw
    · exact htb (.laysStatic "java/lang/Throwable" "UNASSIGNED_STACK" "[Ljava/lang/StackTraceElement;") (by decide +kernel)
    rcases List.mem_cons.mp hw with rfl | hw
    · exact htb (.laysStatic "java/lang/Throwable" "SUPPRESSED_SENTINEL" "Ljava/util/List;") (by decide +kernel)
    rcases List.mem_cons.mp hw with rfl | hw
    · exact hf (.isRef (.static "java/lang/Throwable" "UNASSIGNED_STACK" "[Ljava/lang/StackTraceElement;")) (by decide +kernel)
    rcases List.mem_cons.mp hw with rfl | hw
    · exact hf (.isRef (.static "java/lang/Throwable" "SUPPRESSED_SENTINEL" "Ljava/util/List;")) (by decide +kernel)
    · cases hw
  obtain ⟨cJ, iJ, kJ⟩ := u_known (C := RJx00060) (T := TJx00060) (N := 6) (n := 6) htb inJx00060 (htb (.instantiable RJx00060 6) (by decide +kernel))
  obtain ⟨c0, i0, k0⟩ := u_known (C := RX0) (T := TX0) (N := 5) (n := 5) htb inX0 (htb (.instantiable RX0 5) (by decide +kernel))
  obtain ⟨c1, i1, k1⟩ := u_known (C := RX1) (T := TX1) (N := 7) (n := 7) htb inX1 (htb (.instantiable RX1 7) (by decide +kernel))
  obtain ⟨c2, i2, k2⟩ := u_known (C := RX2) (T := TX2) (N := 12) (n := 12) htb inX2 (htb (.instantiable RX2 12) (by decide +kernel))
  obtain ⟨D, hKc⟩ : ∃ D : va_G, ∀ (k : Nat) (q : vw_C), vwCl[k]? = some q → u_Kn s q.1 q.2.1 q.2.2 (D.1 k) (D.2 k) := by
    refine ⟨(fun k => if k = 0 then cJ else if k = 1 then c0 else if k = 2 then c1 else c2, fun k => if k = 0 then iJ else if k = 1 then i0 else if k = 2 then i1 else i2), ?_⟩
    intro k q hq
    match k, hq with
    | 0, hq => cases hq; exact kJ
    | 1, hq => cases hq; exact k0
    | 2, hq => cases hq; exact k1
    | 3, hq => cases hq; exact k2
    | k + 4, hq => simp [vwCl] at hq
  have hS : va_S (fun q : Nat => s.heap.size ≤ q) s.heap s.heap [] := va_S.rf
  have hK : va_K D vwCl [] s := ⟨hKc, fun k q h => by simp at h⟩
  have hP : va_P D vwCl [] s.heap := fun k q h => by simp at h
  have hD : va_D (fun q : Nat => s.heap.size ≤ q) [] := ⟨fun i j p q h => by simp at h, fun k q h => by simp at h⟩
  have hl := lv_entry ([.ref b]) (n := 7) (Nat.le_of_ble_eq_true rfl)
  rw [lg_entry_eq]
  generalize (lg_sl ([.ref b]) ++ List.replicate (7 - (lg_sl ([.ref b])).length) Slot.unset).toArray = ls at hl ⊢
  have hl : lv_has ls 7 [(0, .ref b)] := hl
  generalize hv : (if 0 < L then xs 0 else nI 0) = bv
  refine va_new (ci := 2) (fs := [.null, .null, .int 0, .int 0, .int 0, .null, .int 0]) (C := RX1) (T := TX1) (N := 7) hx hb htb inX1 tyX1 tyX1_ok hown (htb (.classLink RL 8 RX1) (by decide +kernel)) (htb (.instantiable RX1 7) (by decide +kernel)) (htb (.initialized RX1) (by decide +kernel)) hK hP hD hS hA rfl (fun j hj => by rcases (show j = 0 ∨ j = 1 ∨ j = 2 ∨ j = 3 ∨ j = 4 ∨ j = 5 ∨ j = 6 by omega) with rfl | rfl | rfl | rfl | rfl | rfl | rfl <;> rfl) (Nat.le_of_ble_eq_true rfl) (Nat.le_of_ble_eq_true rfl) dL_law_0 (fun b0 H hP hD hS => ?_)
  have hP : va_P D vwCl [(b0, .inr (2, [.null, .null, .int 0, .int 0, .int 0, .null, .int 0]))] H := hP
  have hD : va_D (fun q : Nat => s.heap.size ≤ q) [(b0, .inr (2, [.null, .null, .int 0, .int 0, .int 0, .null, .int 0]))] := hD
  refine W.widen (k := 1) (n := 7) (by decide) (by decide) ?_
  refine lv_dup hx hb dL_law_3 rfl ?_
  refine lv_aload_n hx hb dL_law_4 rfl (lv_at hl 0 rfl) ?_
  refine lv_iconst (v := nI 0) hx hb dL_law_5 (by decide +kernel) ?_
  refine cl_S (index := 15) (rest := [.ref b0, .ref b0]) ⟨hx, hb, hml, hown, hts⟩ (va_cwS 2 hts gL_law_L_cell rfl rfl rfl (by decide +kernel) ⟨Nat.le_of_ble_eq_true rfl, Nat.le_of_ble_eq_true rfl⟩) hX hbl hbA hS hL hl.1 (Nat.le_of_ble_eq_true rfl) dL_law_6 ⟨Nat.le_of_ble_eq_true rfl, Nat.le_of_ble_eq_true rfl⟩ ?_
  refine lv_as (y := bv) hv ?_
  refine cr_I (B := bkB D b0 bv.toInt) (w1 := fun u => bW b0 u.1 u.2.1 u.2.2.1 u.2.2.2.1 u.2.2.2.2.1 u.2.2.2.2.2.1 u.2.2.2.2.2.2.1 u.2.2.2.2.2.2.2 (clN bv.toInt) L1 (fun _ => 0) 0 1 1 (fun _ => 0) 0) (wc := [(b0, .inr (2, [.null, .null, .int 0, .int 0, .int 0, .null, .int 0]))]) (wr := []) (tys := []) (As := [.int bv]) (rest := [.ref b0]) ⟨hx, hb, hml, hown, hts⟩ (c_X1_init l D b0 bv bv.toInt H.size rfl) (cwI 1 hts gL_law_X1_init rfl rfl rfl (htb (.initialized RX1) (by decide +kernel)) (htb (.methodLink RL 21 yX1_init) (by decide +kernel)) (htb (.instanceMethod yX1_init) (by decide +kernel)) rfl (by decide +kernel) ⟨Nat.le_of_ble_eq_true rfl, Nat.le_of_ble_eq_true rfl⟩) hK hP hD hS hA [0] [] rfl rfl rfl rfl (by decide) (fun u A' t h => ⟨h.1, h.2.2⟩) rfl hl.1 rfl (Nat.le_of_ble_eq_true rfl) dL_law_9 ⟨Nat.le_of_ble_eq_true rfl, Nat.le_of_ble_eq_true rfl⟩ (fun u A' t H locs hvm hB hP hD hS => ?_)
  obtain ⟨b1, b2, a0, a1, a2, a3, cB, cI⟩ := u
  have hK : va_K D vwCl (ty2 cB cI) s := va_K.moved hvm.symm hB.2.1
  have hP : va_P D vwCl (bW b0 b1 b2 a0 a1 a2 a3 cB cI (clN bv.toInt) L1 (fun _ => 0) 0 1 1 (fun _ => 0) 0) H := hP
  have hD : va_D (fun q : Nat => s.heap.size ≤ q) (bW b0 b1 b2 a0 a1 a2 a3 cB cI (clN bv.toInt) L1 (fun _ => 0) 0 1 1 (fun _ => 0) 0) := hD
  refine W.widen (k := 7) (n := 4454) (by decide) (by decide) ?_
  refine lv_astore_n (lv' := [(1, .ref b0), (0, .ref b)]) hx hb dL_law_12 rfl hl (by decide) rfl (fun ls hl => ?_)
  refine va_new (ci := 3) (fs := [.int 0, .null, .int 0, .int 0, .int 0, .int 0, .null, .null, .int 0, .null, .null, .int 0]) (C := RX2) (T := TX2) (N := 12) hx hb htb inX2 tyX2 tyX2_ok hown (htb (.classLink RL 24 RX2) (by decide +kernel)) (htb (.instantiable RX2 12) (by decide +kernel)) (htb (.initialized RX2) (by decide +kernel)) hK hP hD hS hA rfl (fun j hj => by rcases (show j = 0 ∨ j = 1 ∨ j = 2 ∨ j = 3 ∨ j = 4 ∨ j = 5 ∨ j = 6 ∨ j = 7 ∨ j = 8 ∨ j = 9 ∨ j = 10 ∨ j = 11 by omega) with rfl | rfl | rfl | rfl | rfl | rfl | rfl | rfl | rfl | rfl | rfl | rfl <;> rfl) (Nat.le_of_ble_eq_true rfl) (Nat.le_of_ble_eq_true rfl) dL_law_13 (fun m0 H hP hD hS => ?_)
  have hP : va_P D vwCl (bW b0 b1 b2 a0 a1 a2 a3 cB cI (clN bv.toInt) L1 (fun _ => 0) 0 1 1 (fun _ => 0) 0 ++ [(m0, .inr (3, [.int 0, .null, .int 0, .int 0, .int 0, .int 0, .null, .null, .int 0, .null, .null, .int 0]))]) H := hP
  have hD : va_D (fun q : Nat => s.heap.size ≤ q) (bW b0 b1 b2 a0 a1 a2 a3 cB cI (clN bv.toInt) L1 (fun _ => 0) 0 1 1 (fun _ => 0) 0 ++ [(m0, .inr (3, [.int 0, .null, .int 0, .int 0, .int 0, .int 0, .null, .null, .int 0, .null, .null, .int 0]))]) := hD
  refine W.widen (k := 8) (n := 4466) (by decide) (by decide) ?_
  refine lv_dup hx hb dL_law_16 rfl ?_
  refine lv_aload_n hx hb dL_law_17 rfl (lv_at hl 1 rfl) ?_
  refine lv_iconst (v := nI 0) hx hb dL_law_18 (by decide +kernel) ?_
  refine cl_S (index := 15) (rest := [.ref m0, .ref m0]) ⟨hx, hb, hml, hown, hts⟩ (va_cwS 2 hts gL_law_L_cell rfl rfl rfl (by decide +kernel) ⟨Nat.le_of_ble_eq_true rfl, Nat.le_of_ble_eq_true rfl⟩) hX hbl hbA hS hL hl.1 (Nat.le_of_ble_eq_true rfl) dL_law_19 ⟨Nat.le_of_ble_eq_true rfl, Nat.le_of_ble_eq_true rfl⟩ ?_
  refine lv_as (y := bv) hv ?_
  refine cr_I (B := mdB D cB cI m0 bv.toInt) (w1 := fun u => mW m0 u.1 u.2.1 u.2.2.1 u.2.2.2.1 u.2.2.2.2 cB cI (clN bv.toInt) L1 (fun _ => 0) 0 1 1 (fun _ => 0) 0 0) (wc := [(m0, .inr (3, [.int 0, .null, .int 0, .int 0, .int 0, .int 0, .null, .null, .int 0, .null, .null, .int 0]))]) (wr := (bW b0 b1 b2 a0 a1 a2 a3 cB cI (clN bv.toInt) L1 (fun _ => 0) 0 1 1 (fun _ => 0) 0)) (tys := ty2 cB cI) (As := [.int bv]) (rest := [.ref m0]) ⟨hx, hb, hml, hown, hts⟩ (c_X2_init l D cB cI m0 bv bv.toInt H.size rfl) (cwI 1 hts gL_law_X2_init rfl rfl rfl (htb (.initialized RX2) (by decide +kernel)) (htb (.methodLink RL 26 yX2_init) (by decide +kernel)) (htb (.instanceMethod yX2_init) (by decide +kernel)) rfl (by decide +kernel) ⟨Nat.le_of_ble_eq_true rfl, Nat.le_of_ble_eq_true rfl⟩) hK hP hD hS hA [7] [0, 1, 2, 3, 4, 5, 6] rfl rfl rfl rfl (by decide) (fun u A' t h => ⟨h.1, h.2⟩) rfl hl.1 rfl (Nat.le_of_ble_eq_true rfl) dL_law_22 ⟨Nat.le_of_ble_eq_true rfl, Nat.le_of_ble_eq_true rfl⟩ (fun u A' t H locs hvm hB hP hD hS => ?_)
  obtain ⟨m1, m2, m3, m4, m5⟩ := u
  have hP : va_P D vwCl (bW b0 b1 b2 a0 a1 a2 a3 cB cI (clN bv.toInt) L1 (fun _ => 0) 0 1 1 (fun _ => 0) 0 ++ mW m0 m1 m2 m3 m4 m5 cB cI (clN bv.toInt) L1 (fun _ => 0) 0 1 1 (fun _ => 0) 0 0) H := hP
  have hD : va_D (fun q : Nat => s.heap.size ≤ q) (bW b0 b1 b2 a0 a1 a2 a3 cB cI (clN bv.toInt) L1 (fun _ => 0) 0 1 1 (fun _ => 0) 0 ++ mW m0 m1 m2 m3 m4 m5 cB cI (clN bv.toInt) L1 (fun _ => 0) 0 1 1 (fun _ => 0) 0 0) := hD
  refine W.widen (k := 13) (n := 8908) (by decide) (by decide) ?_
  refine lv_astore_n (lv' := [(2, .ref m0), (1, .ref b0), (0, .ref b)]) hx hb dL_law_25 rfl hl (by decide) rfl (fun ls hl => ?_)
  refine lv_iconst (v := nI 1) hx hb dL_law_26 (by decide +kernel) ?_
  refine va_newa (atype := .long) (ty := .long) (N' := 1) (a0 := (1, .inr (.inl (fun _ => (0 : Int64))))) hx hb (htb (.arrayClass .long) (by decide +kernel)) rfl hK hP hD hS hA cellL0 (nI_pos (n := 1) (by decide)) (nI_clamp (n := 1) (by decide)) (by show 1 * 8 ≤ 536870912; omega) (Nat.le_of_ble_eq_true rfl) (Nat.le_of_ble_eq_true rfl) dL_law_27 (fun o0 cL H hK hP hD hS => ?_)
  have hK : va_K D vwCl (ty3 cB cI cL) s := hK
  have hP : va_P D vwCl (jW b0 b1 b2 a0 a1 a2 a3 m0 m1 m2 m3 m4 m5 o0 cB cI cL (clN bv.toInt) L1 (fun _ => 0) 0 1 1 (fun _ => 0) 0 L1 (fun _ => 0) 0 1 1 (fun _ => 0) 0 0 (fun _ => 0)) H := hP
  have hD : va_D (fun q : Nat => s.heap.size ≤ q) (jW b0 b1 b2 a0 a1 a2 a3 m0 m1 m2 m3 m4 m5 o0 cB cI cL (clN bv.toInt) L1 (fun _ => 0) 0 1 1 (fun _ => 0) 0 L1 (fun _ => 0) 0 1 1 (fun _ => 0) 0 0 (fun _ => 0)) := hD
  refine lv_astore_n (lv' := [(3, .ref o0), (2, .ref m0), (1, .ref b0), (0, .ref b)]) hx hb dL_law_29 rfl hl (by decide) rfl (fun ls hl => ?_)
  refine lv_iconst (v := nI (1 + 4 * 0)) hx hb dL_law_30 (by decide +kernel) ?_
  refine lv_istore (lv' := [(4, .int (nI (1 + 4 * 0))), (3, .ref o0), (2, .ref m0), (1, .ref b0), (0, .ref b)]) hx hb dL_law_31 hl (by decide) rfl (fun ls hl => ?_)
  exact law_loop hfl ⟨hx, hb, hml, hr, hlocks, hown, htb, hX, hbl, hL, hK, hSp⟩ (L + 1) 0 H _ ls ⟨_, _, _, _, _, _, _, _, _, _, _, _, _, _, J_init bv.toInt, hP, hD, hS, lv_sub hl [0, 4, 3, 2, 1] rfl⟩ (by omega) (by omega)
