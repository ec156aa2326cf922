/-! 19: the law's loop (laid by wip/whole/gen/gen_law.py) -/
/-- a book, the reference, the law's row of one long -/
abbrev jW (b0 b1 b2 a0 a1 a2 a3 m0 m1 m2 m3 m4 m5 o0 : Nat) (cB cI cL : ClassId) (n : Nat) (L : Lg) (fd : Nat → Nat) (fc op tn : Nat) (eb : Nat → Nat) (ec : Nat) (L' : Lg) (fd' : Nat → Nat) (fc' op' tn' : Nat) (eb' : Nat → Nat) (ec' th : Nat) (ov : Nat → Int64) : va_W := bW b0 b1 b2 a0 a1 a2 a3 cB cI n L fd fc op tn eb ec ++ (mW m0 m1 m2 m3 m4 m5 cB cI n L' fd' fc' op' tn' eb' ec' th ++ [(o0, .inl (cL, 1, .inr (.inl ov)))])
/-- what stands all through the law -/
def lawC (p : Program) (s : State) (m : MethodId) (meth : Method) (c : Code) (b L0 : Nat) (xs : Nat → Int32) (D : va_G) (cB cI cL : ClassId) : Prop :=
  p.tables.exec = Jvm.exec ∧ c.code = cL_law ∧ c.maxLocals = 7 ∧ meth.sig.returnType = ret ∧ meth.locks = false ∧ s.vm.findClass RL = some m.cls ∧ (∀ w ∈ lw_tbl, w.before #[Value.ref b] s = true) ∧ va_X b L0 xs s s.heap ∧ b < s.heap.size ∧ L0 ≤ 2049 ∧ va_K D vwCl (ty3 cB cI cL) s ∧ spOK s
/-- what holds at the loop's head, turn k -/
def lawI (s : State) (b : Nat) (D : va_G) (cB cI cL : ClassId) (b0 b1 b2 a0 a1 a2 a3 m0 m1 m2 m3 m4 m5 o0 k : Nat) (H : Heap) (locs : List Loc) (ls : Array Slot) : Prop :=
  ∃ (n : Nat) (L : Lg) (fd : Nat → Nat) (fc op tn : Nat) (eb : Nat → Nat) (ec : Nat) (L' : Lg) (tn' : Nat) (eb' : Nat → Nat) (ec' th : Nat) (ov : Nat → Int64), Jn n L fd fc op tn eb ec L' tn' eb' ec' ∧
    va_P D vwCl (jW b0 b1 b2 a0 a1 a2 a3 m0 m1 m2 m3 m4 m5 o0 cB cI cL n L fd fc op tn eb ec L' fd fc op tn' eb' ec' th ov) H ∧ va_D (fun q => s.heap.size ≤ q) (jW b0 b1 b2 a0 a1 a2 a3 m0 m1 m2 m3 m4 m5 o0 cB cI cL n L fd fc op tn eb ec L' fd fc op tn' eb' ec' th ov) ∧
    va_S (fun q => s.heap.size ≤ q) s.heap H locs ∧ lv_has ls 7 [(4, .int (nI (1 + 4 * k))), (0, .ref b), (1, .ref b0), (2, .ref m0), (3, .ref o0)]
set_option maxRecDepth 100000 in
set_option maxHeartbeats 4000000 in
theorem arm_0 {p : Program} {l : Launch} {e : Env} {s : State} {m : MethodId} {below : List Frame} {meth : Method} {c : Code} {b L0 : Nat} {xs : Nat → Int32} {D : va_G} {cB cI cL : ClassId} {b0 b1 b2 a0 a1 a2 a3 m0 m1 m2 m3 m4 m5 o0 k : Nat} {H : Heap} {locs : List Loc} {ls : Array Slot} {Q : State → Prop} (C : lawC p s m meth c b L0 xs D cB cI cL) (I : lawI s b D cB cI cL b0 b1 b2 a0 a1 a2 a3 m0 m1 m2 m3 m4 m5 o0 k H locs ls) (hk : 4 * k + 5 ≤ L0)
    (kk : ∀ (H : Heap) (locs : List Loc) (ls : Array Slot), lawI s b D cB cI cL b0 b1 b2 a0 a1 a2 a3 m0 m1 m2 m3 m4 m5 o0 k H locs ls → W p l e room_1 s m #[Value.ref b] below meth c H locs (14 + (k + 1)) (8909 + 6 * (k + 1)) Q (F0 m 455 ls [])) : W p l e room_1 s m #[Value.ref b] below meth c H locs (14 + k) (8909 + 6 * k) Q (F0 m 112 ls []) := by
  obtain ⟨hx, hb, hml, hr, hlocks, hown, htb, hX, hbl, hL0, hK, hSp⟩ := C
  obtain ⟨n, L, fd, fc, op, tn, eb, ec, L', tn', eb', ec', th, ov, J, hP, hD, hS, hl⟩ := I
  obtain ⟨⟨j1a, j1b⟩, ⟨j2a, j2b⟩, j3, j4, j5, ⟨j6a, j6b⟩, ⟨j7a, j7b⟩, ⟨j8a, j8b, j8c⟩, ⟨j9a, j9b⟩, j10⟩ := id J
  have hts : ∀ w ∈ wsL_law, w.before #[Value.ref b] s = true := fun w h => htb w (wsL_law_in w h)
  have hK2 : va_K D vwCl (ty2 cB cI) s := hK.sub [0, 1] rfl
  have hA : ∀ q : Nat, s.heap.size ≤ q → (fun q => s.heap.size ≤ q) q := fun q h => h
  have hbA : ¬ (fun q => s.heap.size ≤ q) b := Nat.not_le.mpr hbl
  have hg' : ∀ j, L'.1 j < 256 := fun j => by rw [j8a]; exact j2a j
  have ht : op ≠ 0 → tn = 1 ∨ tn = 2 := fun h => (j10 h).1
  have ht' : op ≠ 0 → tn' = 1 ∨ tn' = 2 := fun h => by rw [(j10 h).2.1]; exact (j10 h).1
  have hu : op ≠ 0 → tn < n := fun h => by have := ht h; omega
  have hu' : op ≠ 0 → tn' < n := fun h => by have := ht' h; omega
  have hp : op ≠ 0 → ∀ k, k < L.2.2.2 → L.2.1 k < 64 * n := fun h => (j10 h).2.2.2.2.2.1
  have hp' : op ≠ 0 → ∀ k, k < L'.2.2.2 → L'.2.1 k < 64 * n := fun h k hk => by rw [j8b]; exact hp h k (by have := (j10 h).2.2.2.2.1; omega)
  refine W.widen (k := 14 + (k + 1)) (n := 8909 + 6 * (k + 1)) (by omega) (by omega) ?_
  have hc1 : 14 + (k + 1) ≤ room_1.cells := by show 14 + (k + 1) ≤ 601024; omega
  have hc2 : 8909 + 6 * (k + 1) ≤ room_1.slots := by show 8909 + 6 * (k + 1) ≤ 7293000; omega
  refine lv_aload_n hx hb dL_law_112 rfl (lv_at hl 2 rfl) ?_
  refine lv_aload_n hx hb dL_law_113 rfl (lv_at hl 1 rfl) ?_
  refine lv_iload hx hb dL_law_114 (lv_at hl 0 rfl) ?_
  refine lv_iconst (v := nI 1) hx hb dL_law_116 (by decide +kernel) ?_
  refine lv_iadd hx hb dL_law_117 ?_
  refine lv_as (y := nI (1 + 4 * k + 1)) (nI_add _ _) ?_
  refine va_sld hx hb hX hbl hbA hS (i := nI (1 + 4 * k + 1)) (vp_in_nI (by omega) (by omega)) dL_law_118 ?_
  refine lv_as (y := xs (1 + 4 * k + 1)) (by rw [nI_clamp (by omega)]) ?_
  refine wr_Vi (wr := (mW m0 m1 m2 m3 m4 m5 cB cI n L' fd fc op tn' eb' ec' th) ++ [(o0, .inl (cL, 1, .inr (.inl ov)))]) (wo := (jW b0 b1 b2 a0 a1 a2 a3 m0 m1 m2 m3 m4 m5 o0 cB cI cL n L (fedF fd fc (xs (1 + 4 * k + 1)).toInt).1 (fedF fd fc (xs (1 + 4 * k + 1)).toInt).2.1 op tn eb ec L' fd fc op tn' eb' ec' th ov)) (As := [.int (xs (1 + 4 * k + 1))]) (rest := []) ⟨hx, hb, hml, hown, hts⟩ (c_X1_feed l D b0 b1 b2 a0 a1 a2 a3 cB cI n L fd fc op tn eb ec (xs (1 + 4 * k + 1)) (xs (1 + 4 * k + 1)).toInt H.size j3 rfl) (cwV 1 hts gL_law_X1_feed rfl rfl rfl (by decide +kernel) ⟨Nat.le_of_ble_eq_true rfl, Nat.le_of_ble_eq_true rfl⟩) hK2 hP hD hS hA [0, 1, 2, 3, 4, 5, 6] [7, 8, 9, 10, 11, 12, 13] rfl rfl rfl rfl (by decide) [7, 8, 9, 10, 11, 12, 13, 0, 1, 2, 3, 4, 5, 6] rfl rfl (ci := 2) rfl rfl (q0 := 0) rfl rfl hl.1 rfl (Nat.le_of_ble_eq_true rfl) dL_law_119 ⟨hc1, hc2⟩ (fun H locs hP hD hS => ?_)
  refine lv_aload_n hx hb dL_law_122 rfl (lv_at hl 3 rfl) ?_
  refine lv_aload_n hx hb dL_law_123 rfl (lv_at hl 1 rfl) ?_
  refine lv_iload hx hb dL_law_124 (lv_at hl 0 rfl) ?_
  refine lv_iconst (v := nI 1) hx hb dL_law_126 (by decide +kernel) ?_
  refine lv_iadd hx hb dL_law_127 ?_
  refine lv_as (y := nI (1 + 4 * k + 1)) (nI_add _ _) ?_
  refine va_sld hx hb hX hbl hbA hS (i := nI (1 + 4 * k + 1)) (vp_in_nI (by omega) (by omega)) dL_law_128 ?_
  refine lv_as (y := xs (1 + 4 * k + 1)) (by rw [nI_clamp (by omega)]) ?_
  refine wr_Vi (wr := (bW b0 b1 b2 a0 a1 a2 a3 cB cI n L (fedF fd fc (xs (1 + 4 * k + 1)).toInt).1 (fedF fd fc (xs (1 + 4 * k + 1)).toInt).2.1 op tn eb ec) ++ [(o0, .inl (cL, 1, .inr (.inl ov)))]) (wo := (jW b0 b1 b2 a0 a1 a2 a3 m0 m1 m2 m3 m4 m5 o0 cB cI cL n L (fedF fd fc (xs (1 + 4 * k + 1)).toInt).1 (fedF fd fc (xs (1 + 4 * k + 1)).toInt).2.1 op tn eb ec L' (fedF fd fc (xs (1 + 4 * k + 1)).toInt).1 (fedF fd fc (xs (1 + 4 * k + 1)).toInt).2.1 op tn' eb' ec' 0 ov)) (As := [.int (xs (1 + 4 * k + 1))]) (rest := [.int (fedF fd fc (xs (1 + 4 * k + 1)).toInt).2.2]) ⟨hx, hb, hml, hown, hts⟩ (c_X2_feed l D m0 m1 m2 m3 m4 m5 cB cI n L' fd fc op tn' eb' ec' th (xs (1 + 4 * k + 1)) (xs (1 + 4 * k + 1)).toInt H.size j3 rfl) (cwV 1 hts gL_law_X2_feed rfl rfl rfl (by decide +kernel) ⟨Nat.le_of_ble_eq_true rfl, Nat.le_of_ble_eq_true rfl⟩) hK2 hP hD hS hA [7, 8, 9, 10, 11, 12] [0, 1, 2, 3, 4, 5, 6, 13] rfl rfl rfl rfl (by decide) [0, 1, 2, 3, 4, 5, 6, 8, 9, 10, 11, 12, 13, 7] rfl rfl (ci := 3) rfl rfl (q0 := 7) rfl rfl hl.1 rfl (Nat.le_of_ble_eq_true rfl) dL_law_129 ⟨hc1, hc2⟩ (fun H locs hP hD hS => ?_)
  refine lv_icmp_eq hx hb dL_law_132 (tgt := 455) (by decide) (fun _ => ?_) (fun h => absurd rfl h)
  exact kk H locs ls ⟨_, _, _, _, _, _, _, _, _, _, _, _, _, _, J_feed J (xs (1 + 4 * k + 1)).toInt, hP, hD, hS, hl⟩
set_option maxRecDepth 100000 in
set_option maxHeartbeats 4000000 in
theorem arm_1 {p : Program} {l : Launch} {e : Env} {s : State} {m : MethodId} {below : List Frame} {meth : Method} {c : Code} {b L0 : Nat} {xs : Nat → Int32} {D : va_G} {cB cI cL : ClassId} {b0 b1 b2 a0 a1 a2 a3 m0 m1 m2 m3 m4 m5 o0 k : Nat} {H : Heap} {locs : List Loc} {ls : Array Slot} {Q : State → Prop} (C : lawC p s m meth c b L0 xs D cB cI cL) (I : lawI s b D cB cI cL b0 b1 b2 a0 a1 a2 a3 m0 m1 m2 m3 m4 m5 o0 k H locs ls) (hk : 4 * k + 5 ≤ L0)
    (kk : ∀ (H : Heap) (locs : List Loc) (ls : Array Slot), lawI s b D cB cI cL b0 b1 b2 a0 a1 a2 a3 m0 m1 m2 m3 m4 m5 o0 k H locs ls → W p l e room_1 s m #[Value.ref b] below meth c H locs (14 + (k + 1)) (8909 + 6 * (k + 1)) Q (F0 m 455 ls [])) : W p l e room_1 s m #[Value.ref b] below meth c H locs (14 + k) (8909 + 6 * k) Q (F0 m 137 ls []) := by
  obtain ⟨hx, hb, hml, hr, hlocks, hown, htb, hX, hbl, hL0, hK, hSp⟩ := C
  obtain ⟨n, L, fd, fc, op, tn, eb, ec, L', tn', eb', ec', th, ov, J, hP, hD, hS, hl⟩ := I
  obtain ⟨⟨j1a, j1b⟩, ⟨j2a, j2b⟩, j3, j4, j5, ⟨j6a, j6b⟩, ⟨j7a, j7b⟩, ⟨j8a, j8b, j8c⟩, ⟨j9a, j9b⟩, j10⟩ := id J
  have hts : ∀ w ∈ wsL_law, w.before #[Value.ref b] s = true := fun w h => htb w (wsL_law_in w h)
  have hK2 : va_K D vwCl (ty2 cB cI) s := hK.sub [0, 1] rfl
  have hA : ∀ q : Nat, s.heap.size ≤ q → (fun q => s.heap.size ≤ q) q := fun q h => h
  have hbA : ¬ (fun q => s.heap.size ≤ q) b := Nat.not_le.mpr hbl
  have hg' : ∀ j, L'.1 j < 256 := fun j => by rw [j8a]; exact j2a j
  have ht : op ≠ 0 → tn = 1 ∨ tn = 2 := fun h => (j10 h).1
  have ht' : op ≠ 0 → tn' = 1 ∨ tn' = 2 := fun h => by rw [(j10 h).2.1]; exact (j10 h).1
  have hu : op ≠ 0 → tn < n := fun h => by have := ht h; omega
  have hu' : op ≠ 0 → tn' < n := fun h => by have := ht' h; omega
  have hp : op ≠ 0 → ∀ k, k < L.2.2.2 → L.2.1 k < 64 * n := fun h => (j10 h).2.2.2.2.2.1
  have hp' : op ≠ 0 → ∀ k, k < L'.2.2.2 → L'.2.1 k < 64 * n := fun h k hk => by rw [j8b]; exact hp h k (by have := (j10 h).2.2.2.2.1; omega)
  refine W.widen (k := 14 + (k + 1)) (n := 8909 + 6 * (k + 1)) (by omega) (by omega) ?_
  have hc1 : 14 + (k + 1) ≤ room_1.cells := by show 14 + (k + 1) ≤ 601024; omega
  have hc2 : 8909 + 6 * (k + 1) ≤ room_1.slots := by show 8909 + 6 * (k + 1) ≤ 7293000; omega
  have jp := J_put J (xs (1 + 4 * k + 1)).toInt
  refine lv_aload_n hx hb dL_law_137 rfl (lv_at hl 2 rfl) ?_
  refine lv_aload_n hx hb dL_law_138 rfl (lv_at hl 1 rfl) ?_
  refine lv_iload hx hb dL_law_139 (lv_at hl 0 rfl) ?_
  refine lv_iconst (v := nI 1) hx hb dL_law_141 (by decide +kernel) ?_
  refine lv_iadd hx hb dL_law_142 ?_
  refine lv_as (y := nI (1 + 4 * k + 1)) (nI_add _ _) ?_
  refine va_sld hx hb hX hbl hbA hS (i := nI (1 + 4 * k + 1)) (vp_in_nI (by omega) (by omega)) dL_law_143 ?_
  refine lv_as (y := xs (1 + 4 * k + 1)) (by rw [nI_clamp (by omega)]) ?_
  refine wr_Vi (wr := (mW m0 m1 m2 m3 m4 m5 cB cI n L' fd fc op tn' eb' ec' th) ++ [(o0, .inl (cL, 1, .inr (.inl ov)))]) (wo := (jW b0 b1 b2 a0 a1 a2 a3 m0 m1 m2 m3 m4 m5 o0 cB cI cL n (putF n L fd fc op tn eb ec (xs (1 + 4 * k + 1)).toInt).1 fd (putF n L fd fc op tn eb ec (xs (1 + 4 * k + 1)).toInt).2.1 op (putF n L fd fc op tn eb ec (xs (1 + 4 * k + 1)).toInt).2.2.1 (putF n L fd fc op tn eb ec (xs (1 + 4 * k + 1)).toInt).2.2.2.1 (putF n L fd fc op tn eb ec (xs (1 + 4 * k + 1)).toInt).2.2.2.2.1 L' fd fc op tn' eb' ec' th ov)) (As := [.int (xs (1 + 4 * k + 1))]) (rest := []) ⟨hx, hb, hml, hown, hts⟩ (c_X1_put l D b0 b1 b2 a0 a1 a2 a3 cB cI n L fd fc op tn eb ec (xs (1 + 4 * k + 1)) (xs (1 + 4 * k + 1)).toInt H.size j1a j1b j2a j6a j7a j3 j4 j5 ht rfl) (cwV 1 hts gL_law_X1_put rfl rfl rfl (by decide +kernel) ⟨Nat.le_of_ble_eq_true rfl, Nat.le_of_ble_eq_true rfl⟩) hK2 hP hD hS hA [0, 1, 2, 3, 4, 5, 6] [7, 8, 9, 10, 11, 12, 13] rfl rfl rfl rfl (by decide) [7, 8, 9, 10, 11, 12, 13, 0, 1, 2, 3, 4, 5, 6] rfl rfl (ci := 2) rfl rfl (q0 := 0) rfl rfl hl.1 rfl (Nat.le_of_ble_eq_true rfl) dL_law_144 ⟨hc1, hc2⟩ (fun H locs hP hD hS => ?_)
  refine lv_aload_n hx hb dL_law_147 rfl (lv_at hl 3 rfl) ?_
  refine lv_aload_n hx hb dL_law_148 rfl (lv_at hl 1 rfl) ?_
  refine lv_iload hx hb dL_law_149 (lv_at hl 0 rfl) ?_
  refine lv_iconst (v := nI 1) hx hb dL_law_151 (by decide +kernel) ?_
  refine lv_iadd hx hb dL_law_152 ?_
  refine lv_as (y := nI (1 + 4 * k + 1)) (nI_add _ _) ?_
  refine va_sld hx hb hX hbl hbA hS (i := nI (1 + 4 * k + 1)) (vp_in_nI (by omega) (by omega)) dL_law_153 ?_
  refine lv_as (y := xs (1 + 4 * k + 1)) (by rw [nI_clamp (by omega)]) ?_
  refine wr_Vi (wr := (bW b0 b1 b2 a0 a1 a2 a3 cB cI n (putF n L fd fc op tn eb ec (xs (1 + 4 * k + 1)).toInt).1 fd (putF n L fd fc op tn eb ec (xs (1 + 4 * k + 1)).toInt).2.1 op (putF n L fd fc op tn eb ec (xs (1 + 4 * k + 1)).toInt).2.2.1 (putF n L fd fc op tn eb ec (xs (1 + 4 * k + 1)).toInt).2.2.2.1 (putF n L fd fc op tn eb ec (xs (1 + 4 * k + 1)).toInt).2.2.2.2.1) ++ [(o0, .inl (cL, 1, .inr (.inl ov)))]) (wo := (jW b0 b1 b2 a0 a1 a2 a3 m0 m1 m2 m3 m4 m5 o0 cB cI cL n (putF n L fd fc op tn eb ec (xs (1 + 4 * k + 1)).toInt).1 fd (putF n L fd fc op tn eb ec (xs (1 + 4 * k + 1)).toInt).2.1 op (putF n L fd fc op tn eb ec (xs (1 + 4 * k + 1)).toInt).2.2.1 (putF n L fd fc op tn eb ec (xs (1 + 4 * k + 1)).toInt).2.2.2.1 (putF n L fd fc op tn eb ec (xs (1 + 4 * k + 1)).toInt).2.2.2.2.1 (putF n L' fd fc op tn' eb' ec' (xs (1 + 4 * k + 1)).toInt).1 fd (putF n L' fd fc op tn' eb' ec' (xs (1 + 4 * k + 1)).toInt).2.1 op (putF n L' fd fc op tn' eb' ec' (xs (1 + 4 * k + 1)).toInt).2.2.1 (putF n L' fd fc op tn' eb' ec' (xs (1 + 4 * k + 1)).toInt).2.2.2.1 (putF n L' fd fc op tn' eb' ec' (xs (1 + 4 * k + 1)).toInt).2.2.2.2.1 0 ov)) (As := [.int (xs (1 + 4 * k + 1))]) (rest := [.int (putF n L fd fc op tn eb ec (xs (1 + 4 * k + 1)).toInt).2.2.2.2.2]) ⟨hx, hb, hml, hown, hts⟩ (c_X2_put l D m0 m1 m2 m3 m4 m5 cB cI n L' fd fc op tn' eb' ec' th (xs (1 + 4 * k + 1)) (xs (1 + 4 * k + 1)).toInt H.size j1a j1b hg' j6b j7b j3 j4 j5 ht' rfl) (cwV 1 hts gL_law_X2_put rfl rfl rfl (by decide +kernel) ⟨Nat.le_of_ble_eq_true rfl, Nat.le_of_ble_eq_true rfl⟩) hK2 hP hD hS hA [7, 8, 9, 10, 11, 12] [0, 1, 2, 3, 4, 5, 6, 13] rfl rfl rfl rfl (by decide) [0, 1, 2, 3, 4, 5, 6, 8, 9, 10, 11, 12, 13, 7] rfl rfl (ci := 3) rfl rfl (q0 := 7) rfl rfl hl.1 rfl (Nat.le_of_ble_eq_true rfl) dL_law_154 ⟨hc1, hc2⟩ (fun H locs hP hD hS => ?_)
  refine lv_icmp_eq hx hb dL_law_157 (tgt := 455) (by decide) (fun _ => ?_) (fun h => absurd jp.1 h)
  rw [← jp.2.1] at hP hD
  exact kk H locs ls ⟨_, _, _, _, _, _, _, _, _, _, _, _, _, _, jp.2.2, hP, hD, hS, hl⟩
set_option maxRecDepth 100000 in
set_option maxHeartbeats 4000000 in
theorem arm_2 {p : Program} {l : Launch} {e : Env} {s : State} {m : MethodId} {below : List Frame} {meth : Method} {c : Code} {b L0 : Nat} {xs : Nat → Int32} {D : va_G} {cB cI cL : ClassId} {b0 b1 b2 a0 a1 a2 a3 m0 m1 m2 m3 m4 m5 o0 k : Nat} {H : Heap} {locs : List Loc} {ls : Array Slot} {Q : State → Prop} (C : lawC p s m meth c b L0 xs D cB cI cL) (I : lawI s b D cB cI cL b0 b1 b2 a0 a1 a2 a3 m0 m1 m2 m3 m4 m5 o0 k H locs ls) (hk : 4 * k + 5 ≤ L0)
    (kk : ∀ (H : Heap) (locs : List Loc) (ls : Array Slot), lawI s b D cB cI cL b0 b1 b2 a0 a1 a2 a3 m0 m1 m2 m3 m4 m5 o0 k H locs ls → W p l e room_1 s m #[Value.ref b] below meth c H locs (14 + (k + 1)) (8909 + 6 * (k + 1)) Q (F0 m 455 ls [])) : W p l e room_1 s m #[Value.ref b] below meth c H locs (14 + k) (8909 + 6 * k) Q (F0 m 162 ls []) := by
  obtain ⟨hx, hb, hml, hr, hlocks, hown, htb, hX, hbl, hL0, hK, hSp⟩ := C
  obtain ⟨n, L, fd, fc, op, tn, eb, ec, L', tn', eb', ec', th, ov, J, hP, hD, hS, hl⟩ := I
  obtain ⟨⟨j1a, j1b⟩, ⟨j2a, j2b⟩, j3, j4, j5, ⟨j6a, j6b⟩, ⟨j7a, j7b⟩, ⟨j8a, j8b, j8c⟩, ⟨j9a, j9b⟩, j10⟩ := id J
  have hts : ∀ w ∈ wsL_law, w.before #[Value.ref b] s = true := fun w h => htb w (wsL_law_in w h)
  have hK2 : va_K D vwCl (ty2 cB cI) s := hK.sub [0, 1] rfl
  have hA : ∀ q : Nat, s.heap.size ≤ q → (fun q => s.heap.size ≤ q) q := fun q h => h
  have hbA : ¬ (fun q => s.heap.size ≤ q) b := Nat.not_le.mpr hbl
  have hg' : ∀ j, L'.1 j < 256 := fun j => by rw [j8a]; exact j2a j
  have ht : op ≠ 0 → tn = 1 ∨ tn = 2 := fun h => (j10 h).1
  have ht' : op ≠ 0 → tn' = 1 ∨ tn' = 2 := fun h => by rw [(j10 h).2.1]; exact (j10 h).1
  have hu : op ≠ 0 → tn < n := fun h => by have := ht h; omega
  have hu' : op ≠ 0 → tn' < n := fun h => by have := ht' h; omega
  have hp : op ≠ 0 → ∀ k, k < L.2.2.2 → L.2.1 k < 64 * n := fun h => (j10 h).2.2.2.2.2.1
  have hp' : op ≠ 0 → ∀ k, k < L'.2.2.2 → L'.2.1 k < 64 * n := fun h k hk => by rw [j8b]; exact hp h k (by have := (j10 h).2.2.2.2.1; omega)
  refine W.widen (k := 14 + (k + 1)) (n := 8909 + 6 * (k + 1)) (by omega) (by omega) ?_
  have hc1 : 14 + (k + 1) ≤ room_1.cells := by show 14 + (k + 1) ≤ 601024; omega
  have hc2 : 8909 + 6 * (k + 1) ≤ room_1.slots := by show 8909 + 6 * (k + 1) ≤ 7293000; omega
  refine lv_aload_n hx hb dL_law_162 rfl (lv_at hl 2 rfl) ?_
  refine lv_aload_n hx hb dL_law_163 rfl (lv_at hl 1 rfl) ?_
  refine lv_iload hx hb dL_law_164 (lv_at hl 0 rfl) ?_
  refine lv_iconst (v := nI 1) hx hb dL_law_166 (by decide +kernel) ?_
  refine lv_iadd hx hb dL_law_167 ?_
  refine lv_as (y := nI (1 + 4 * k + 1)) (nI_add _ _) ?_
  refine va_sld hx hb hX hbl hbA hS (i := nI (1 + 4 * k + 1)) (vp_in_nI (by omega) (by omega)) dL_law_168 ?_
  refine lv_as (y := xs (1 + 4 * k + 1)) (by rw [nI_clamp (by omega)]) ?_
  refine lv_aload_n hx hb dL_law_169 rfl (lv_at hl 1 rfl) ?_
  refine lv_iload hx hb dL_law_170 (lv_at hl 0 rfl) ?_
  refine lv_iconst (v := nI 2) hx hb dL_law_172 (by decide +kernel) ?_
  refine lv_iadd hx hb dL_law_173 ?_
  refine lv_as (y := nI (1 + 4 * k + 2)) (nI_add _ _) ?_
  refine va_sld hx hb hX hbl hbA hS (i := nI (1 + 4 * k + 2)) (vp_in_nI (by omega) (by omega)) dL_law_174 ?_
  refine lv_as (y := xs (1 + 4 * k + 2)) (by rw [nI_clamp (by omega)]) ?_
  refine rd_V (As := [.int (xs (1 + 4 * k + 1)), .int (xs (1 + 4 * k + 2))]) (rest := []) ⟨hx, hb, hml, hown, hts⟩ (c_X1_find l D b0 b1 b2 a0 a1 a2 a3 cB cI n L fd fc op tn eb ec (xs (1 + 4 * k + 1)) (xs (1 + 4 * k + 2)) (xs (1 + 4 * k + 1)).toInt (xs (1 + 4 * k + 2)).toInt j1b j2a j6a j7a j5 rfl rfl) (cwV 2 hts gL_law_X1_find rfl rfl rfl (by decide +kernel) ⟨Nat.le_of_ble_eq_true rfl, Nat.le_of_ble_eq_true rfl⟩) hK2 hP [0, 1, 2, 3, 4, 5, 6] rfl (ci := 2) rfl rfl (q0 := 0) rfl rfl hl.1 rfl (Nat.le_of_ble_eq_true rfl) dL_law_175 ⟨hc1, hc2⟩ (fun r hr9 => ?_)
  subst hr9
  refine lv_aload_n hx hb dL_law_178 rfl (lv_at hl 3 rfl) ?_
  refine lv_aload_n hx hb dL_law_179 rfl (lv_at hl 1 rfl) ?_
  refine lv_iload hx hb dL_law_180 (lv_at hl 0 rfl) ?_
  refine lv_iconst (v := nI 1) hx hb dL_law_182 (by decide +kernel) ?_
  refine lv_iadd hx hb dL_law_183 ?_
  refine lv_as (y := nI (1 + 4 * k + 1)) (nI_add _ _) ?_
  refine va_sld hx hb hX hbl hbA hS (i := nI (1 + 4 * k + 1)) (vp_in_nI (by omega) (by omega)) dL_law_184 ?_
  refine lv_as (y := xs (1 + 4 * k + 1)) (by rw [nI_clamp (by omega)]) ?_
  refine lv_aload_n hx hb dL_law_185 rfl (lv_at hl 1 rfl) ?_
  refine lv_iload hx hb dL_law_186 (lv_at hl 0 rfl) ?_
  refine lv_iconst (v := nI 2) hx hb dL_law_188 (by decide +kernel) ?_
  refine lv_iadd hx hb dL_law_189 ?_
  refine lv_as (y := nI (1 + 4 * k + 2)) (nI_add _ _) ?_
  refine va_sld hx hb hX hbl hbA hS (i := nI (1 + 4 * k + 2)) (vp_in_nI (by omega) (by omega)) dL_law_190 ?_
  refine lv_as (y := xs (1 + 4 * k + 2)) (by rw [nI_clamp (by omega)]) ?_
  refine wr_Vi (wr := (bW b0 b1 b2 a0 a1 a2 a3 cB cI n L fd fc op tn eb ec) ++ [(o0, .inl (cL, 1, .inr (.inl ov)))]) (wo := (jW b0 b1 b2 a0 a1 a2 a3 m0 m1 m2 m3 m4 m5 o0 cB cI cL n L fd fc op tn eb ec L' fd fc op tn' eb' ec' 0 ov)) (As := [.int (xs (1 + 4 * k + 1)), .int (xs (1 + 4 * k + 2))]) (rest := [.int (q_find L.1 (bO eb ec) op ec (xs (1 + 4 * k + 1)).toInt (xs (1 + 4 * k + 2)).toInt)]) ⟨hx, hb, hml, hown, hts⟩ (c_X2_find l D m0 m1 m2 m3 m4 m5 cB cI n L' fd fc op tn' eb' ec' th (xs (1 + 4 * k + 1)) (xs (1 + 4 * k + 2)) (xs (1 + 4 * k + 1)).toInt (xs (1 + 4 * k + 2)).toInt H.size j1b hg' j6b j7b j5 rfl rfl) (cwV 2 hts gL_law_X2_find rfl rfl rfl (by decide +kernel) ⟨Nat.le_of_ble_eq_true rfl, Nat.le_of_ble_eq_true rfl⟩) hK2 hP hD hS hA [7, 8, 9, 10, 11, 12] [0, 1, 2, 3, 4, 5, 6, 13] rfl rfl rfl rfl (by decide) [0, 1, 2, 3, 4, 5, 6, 8, 9, 10, 11, 12, 13, 7] rfl rfl (ci := 3) rfl rfl (q0 := 7) rfl rfl hl.1 rfl (Nat.le_of_ble_eq_true rfl) dL_law_191 ⟨hc1, hc2⟩ (fun H locs hP hD hS => ?_)
  refine lv_icmp_eq hx hb dL_law_194 (tgt := 455) (by decide) (fun _ => ?_) (fun h => absurd ((J_ans J).1 (xs (1 + 4 * k + 1)).toInt (xs (1 + 4 * k + 2)).toInt) h)
  exact kk H locs ls ⟨_, _, _, _, _, _, _, _, _, _, _, _, _, _, J, hP, hD, hS, hl⟩
set_option maxRecDepth 100000 in
set_option maxHeartbeats 4000000 in
theorem arm_3 {p : Program} {l : Launch} {e : Env} {s : State} {m : MethodId} {below : List Frame} {meth : Method} {c : Code} {b L0 : Nat} {xs : Nat → Int32} {D : va_G} {cB cI cL : ClassId} {b0 b1 b2 a0 a1 a2 a3 m0 m1 m2 m3 m4 m5 o0 k : Nat} {H : Heap} {locs : List Loc} {ls : Array Slot} {Q : State → Prop} (C : lawC p s m meth c b L0 xs D cB cI cL) (I : lawI s b D cB cI cL b0 b1 b2 a0 a1 a2 a3 m0 m1 m2 m3 m4 m5 o0 k H locs ls) (hk : 4 * k + 5 ≤ L0)
    (kk : ∀ (H : Heap) (locs : List Loc) (ls : Array Slot), lawI s b D cB cI cL b0 b1 b2 a0 a1 a2 a3 m0 m1 m2 m3 m4 m5 o0 k H locs ls → W p l e room_1 s m #[Value.ref b] below meth c H locs (14 + (k + 1)) (8909 + 6 * (k + 1)) Q (F0 m 455 ls [])) : W p l e room_1 s m #[Value.ref b] below meth c H locs (14 + k) (8909 + 6 * k) Q (F0 m 199 ls []) := by
  obtain ⟨hx, hb, hml, hr, hlocks, hown, htb, hX, hbl, hL0, hK, hSp⟩ := C
  obtain ⟨n, L, fd, fc, op, tn, eb, ec, L', tn', eb', ec', th, ov, J, hP, hD, hS, hl⟩ := I
  obtain ⟨⟨j1a, j1b⟩, ⟨j2a, j2b⟩, j3, j4, j5, ⟨j6a, j6b⟩, ⟨j7a, j7b⟩, ⟨j8a, j8b, j8c⟩, ⟨j9a, j9b⟩, j10⟩ := id J
  have hts : ∀ w ∈ wsL_law, w.before #[Value.ref b] s = true := fun w h => htb w (wsL_law_in w h)
  have hK2 : va_K D vwCl (ty2 cB cI) s := hK.sub [0, 1] rfl
  have hA : ∀ q : Nat, s.heap.size ≤ q → (fun q => s.heap.size ≤ q) q := fun q h => h
  have hbA : ¬ (fun q => s.heap.size ≤ q) b := Nat.not_le.mpr hbl
  have hg' : ∀ j, L'.1 j < 256 := fun j => by rw [j8a]; exact j2a j
  have ht : op ≠ 0 → tn = 1 ∨ tn = 2 := fun h => (j10 h).1
  have ht' : op ≠ 0 → tn' = 1 ∨ tn' = 2 := fun h => by rw [(j10 h).2.1]; exact (j10 h).1
  have hu : op ≠ 0 → tn < n := fun h => by have := ht h; omega
  have hu' : op ≠ 0 → tn' < n := fun h => by have := ht' h; omega
  have hp : op ≠ 0 → ∀ k, k < L.2.2.2 → L.2.1 k < 64 * n := fun h => (j10 h).2.2.2.2.2.1
  have hp' : op ≠ 0 → ∀ k, k < L'.2.2.2 → L'.2.1 k < 64 * n := fun h k hk => by rw [j8b]; exact hp h k (by have := (j10 h).2.2.2.2.1; omega)
  refine W.widen (k := 14 + (k + 1)) (n := 8909 + 6 * (k + 1)) (by omega) (by omega) ?_
  have hc1 : 14 + (k + 1) ≤ room_1.cells := by show 14 + (k + 1) ≤ 601024; omega
  have hc2 : 8909 + 6 * (k + 1) ≤ room_1.slots := by show 8909 + 6 * (k + 1) ≤ 7293000; omega
  refine lv_aload_n hx hb dL_law_199 rfl (lv_at hl 2 rfl) ?_
  refine lv_aload_n hx hb dL_law_200 rfl (lv_at hl 1 rfl) ?_
  refine lv_iload hx hb dL_law_201 (lv_at hl 0 rfl) ?_
  refine lv_iconst (v := nI 1) hx hb dL_law_203 (by decide +kernel) ?_
  refine lv_iadd hx hb dL_law_204 ?_
  refine lv_as (y := nI (1 + 4 * k + 1)) (nI_add _ _) ?_
  refine va_sld hx hb hX hbl hbA hS (i := nI (1 + 4 * k + 1)) (vp_in_nI (by omega) (by omega)) dL_law_205 ?_
  refine lv_as (y := xs (1 + 4 * k + 1)) (by rw [nI_clamp (by omega)]) ?_
  refine lv_aload_n hx hb dL_law_206 rfl (lv_at hl 1 rfl) ?_
  refine lv_iload hx hb dL_law_207 (lv_at hl 0 rfl) ?_
  refine lv_iconst (v := nI 2) hx hb dL_law_209 (by decide +kernel) ?_
  refine lv_iadd hx hb dL_law_210 ?_
  refine lv_as (y := nI (1 + 4 * k + 2)) (nI_add _ _) ?_
  refine va_sld hx hb hX hbl hbA hS (i := nI (1 + 4 * k + 2)) (vp_in_nI (by omega) (by omega)) dL_law_211 ?_
  refine lv_as (y := xs (1 + 4 * k + 2)) (by rw [nI_clamp (by omega)]) ?_
  refine rd_V (As := [.int (xs (1 + 4 * k + 1)), .int (xs (1 + 4 * k + 2))]) (rest := []) ⟨hx, hb, hml, hown, hts⟩ (c_X1_entry l D b0 b1 b2 a0 a1 a2 a3 cB cI n L fd fc op tn eb ec (xs (1 + 4 * k + 1)) (xs (1 + 4 * k + 2)) (xs (1 + 4 * k + 1)).toInt (xs (1 + 4 * k + 2)).toInt j1b j2a j6a j7a j5 rfl rfl) (cwV 2 hts gL_law_X1_entry rfl rfl rfl (by decide +kernel) ⟨Nat.le_of_ble_eq_true rfl, Nat.le_of_ble_eq_true rfl⟩) hK2 hP [0, 1, 2, 3, 4, 5, 6] rfl (ci := 2) rfl rfl (q0 := 0) rfl rfl hl.1 rfl (Nat.le_of_ble_eq_true rfl) dL_law_212 ⟨hc1, hc2⟩ (fun r hr9 => ?_)
  subst hr9
  refine lv_aload_n hx hb dL_law_215 rfl (lv_at hl 3 rfl) ?_
  refine lv_aload_n hx hb dL_law_216 rfl (lv_at hl 1 rfl) ?_
  refine lv_iload hx hb dL_law_217 (lv_at hl 0 rfl) ?_
  refine lv_iconst (v := nI 1) hx hb dL_law_219 (by decide +kernel) ?_
  refine lv_iadd hx hb dL_law_220 ?_
  refine lv_as (y := nI (1 + 4 * k + 1)) (nI_add _ _) ?_
  refine va_sld hx hb hX hbl hbA hS (i := nI (1 + 4 * k + 1)) (vp_in_nI (by omega) (by omega)) dL_law_221 ?_
  refine lv_as (y := xs (1 + 4 * k + 1)) (by rw [nI_clamp (by omega)]) ?_
  refine lv_aload_n hx hb dL_law_222 rfl (lv_at hl 1 rfl) ?_
  refine lv_iload hx hb dL_law_223 (lv_at hl 0 rfl) ?_
  refine lv_iconst (v := nI 2) hx hb dL_law_225 (by decide +kernel) ?_
  refine lv_iadd hx hb dL_law_226 ?_
  refine lv_as (y := nI (1 + 4 * k + 2)) (nI_add _ _) ?_
  refine va_sld hx hb hX hbl hbA hS (i := nI (1 + 4 * k + 2)) (vp_in_nI (by omega) (by omega)) dL_law_227 ?_
  refine lv_as (y := xs (1 + 4 * k + 2)) (by rw [nI_clamp (by omega)]) ?_
  refine wr_Vi (wr := (bW b0 b1 b2 a0 a1 a2 a3 cB cI n L fd fc op tn eb ec) ++ [(o0, .inl (cL, 1, .inr (.inl ov)))]) (wo := (jW b0 b1 b2 a0 a1 a2 a3 m0 m1 m2 m3 m4 m5 o0 cB cI cL n L fd fc op tn eb ec L' fd fc op tn' eb' ec' 0 ov)) (As := [.int (xs (1 + 4 * k + 1)), .int (xs (1 + 4 * k + 2))]) (rest := [.int (q_entry L.1 (bO eb ec) op ec (xs (1 + 4 * k + 1)).toInt (xs (1 + 4 * k + 2)).toInt)]) ⟨hx, hb, hml, hown, hts⟩ (c_X2_entry l D m0 m1 m2 m3 m4 m5 cB cI n L' fd fc op tn' eb' ec' th (xs (1 + 4 * k + 1)) (xs (1 + 4 * k + 2)) (xs (1 + 4 * k + 1)).toInt (xs (1 + 4 * k + 2)).toInt H.size j1b hg' j6b j7b j5 rfl rfl) (cwV 2 hts gL_law_X2_entry rfl rfl rfl (by decide +kernel) ⟨Nat.le_of_ble_eq_true rfl, Nat.le_of_ble_eq_true rfl⟩) hK2 hP hD hS hA [7, 8, 9, 10, 11, 12] [0, 1, 2, 3, 4, 5, 6, 13] rfl rfl rfl rfl (by decide) [0, 1, 2, 3, 4, 5, 6, 8, 9, 10, 11, 12, 13, 7] rfl rfl (ci := 3) rfl rfl (q0 := 7) rfl rfl hl.1 rfl (Nat.le_of_ble_eq_true rfl) dL_law_228 ⟨hc1, hc2⟩ (fun H locs hP hD hS => ?_)
  refine lv_icmp_eq hx hb dL_law_231 (tgt := 455) (by decide) (fun _ => ?_) (fun h => absurd ((J_ans J).2.1 (xs (1 + 4 * k + 1)).toInt (xs (1 + 4 * k + 2)).toInt) h)
  exact kk H locs ls ⟨_, _, _, _, _, _, _, _, _, _, _, _, _, _, J, hP, hD, hS, hl⟩
set_option maxRecDepth 100000 in
set_option maxHeartbeats 4000000 in
theorem arm_4 {p : Program} {l : Launch} {e : Env} {s : State} {m : MethodId} {below : List Frame} {meth : Method} {c : Code} {b L0 : Nat} {xs : Nat → Int32} {D : va_G} {cB cI cL : ClassId} {b0 b1 b2 a0 a1 a2 a3 m0 m1 m2 m3 m4 m5 o0 k : Nat} {H : Heap} {locs : List Loc} {ls : Array Slot} {Q : State → Prop} (C : lawC p s m meth c b L0 xs D cB cI cL) (I : lawI s b D cB cI cL b0 b1 b2 a0 a1 a2 a3 m0 m1 m2 m3 m4 m5 o0 k H locs ls) (hk : 4 * k + 5 ≤ L0)
    (kk : ∀ (H : Heap) (locs : List Loc) (ls : Array Slot), lawI s b D cB cI cL b0 b1 b2 a0 a1 a2 a3 m0 m1 m2 m3 m4 m5 o0 k H locs ls → W p l e room_1 s m #[Value.ref b] below meth c H locs (14 + (k + 1)) (8909 + 6 * (k + 1)) Q (F0 m 455 ls [])) : W p l e room_1 s m #[Value.ref b] below meth c H locs (14 + k) (8909 + 6 * k) Q (F0 m 236 ls []) := by
  obtain ⟨hx, hb, hml, hr, hlocks, hown, htb, hX, hbl, hL0, hK, hSp⟩ := C
  obtain ⟨n, L, fd, fc, op, tn, eb, ec, L', tn', eb', ec', th, ov, J, hP, hD, hS, hl⟩ := I
  obtain ⟨⟨j1a, j1b⟩, ⟨j2a, j2b⟩, j3, j4, j5, ⟨j6a, j6b⟩, ⟨j7a, j7b⟩, ⟨j8a, j8b, j8c⟩, ⟨j9a, j9b⟩, j10⟩ := id J
  have hts : ∀ w ∈ wsL_law, w.before #[Value.ref b] s = true := fun w h => htb w (wsL_law_in w h)
  have hK2 : va_K D vwCl (ty2 cB cI) s := hK.sub [0, 1] rfl
  have hA : ∀ q : Nat, s.heap.size ≤ q → (fun q => s.heap.size ≤ q) q := fun q h => h
  have hbA : ¬ (fun q => s.heap.size ≤ q) b := Nat.not_le.mpr hbl
  have hg' : ∀ j, L'.1 j < 256 := fun j => by rw [j8a]; exact j2a j
  have ht : op ≠ 0 → tn = 1 ∨ tn = 2 := fun h => (j10 h).1
  have ht' : op ≠ 0 → tn' = 1 ∨ tn' = 2 := fun h => by rw [(j10 h).2.1]; exact (j10 h).1
  have hu : op ≠ 0 → tn < n := fun h => by have := ht h; omega
  have hu' : op ≠ 0 → tn' < n := fun h => by have := ht' h; omega
  have hp : op ≠ 0 → ∀ k, k < L.2.2.2 → L.2.1 k < 64 * n := fun h => (j10 h).2.2.2.2.2.1
  have hp' : op ≠ 0 → ∀ k, k < L'.2.2.2 → L'.2.1 k < 64 * n := fun h k hk => by rw [j8b]; exact hp h k (by have := (j10 h).2.2.2.2.1; omega)
  refine W.widen (k := 14 + (k + 1)) (n := 8909 + 6 * (k + 1)) (by omega) (by omega) ?_
  have hc1 : 14 + (k + 1) ≤ room_1.cells := by show 14 + (k + 1) ≤ 601024; omega
  have hc2 : 8909 + 6 * (k + 1) ≤ room_1.slots := by show 8909 + 6 * (k + 1) ≤ 7293000; omega
  have jp := J_drop J (xs (1 + 4 * k + 1)).toInt
  refine lv_aload_n hx hb dL_law_236 rfl (lv_at hl 2 rfl) ?_
  refine lv_aload_n hx hb dL_law_237 rfl (lv_at hl 1 rfl) ?_
  refine lv_iload hx hb dL_law_238 (lv_at hl 0 rfl) ?_
  refine lv_iconst (v := nI 1) hx hb dL_law_240 (by decide +kernel) ?_
  refine lv_iadd hx hb dL_law_241 ?_
  refine lv_as (y := nI (1 + 4 * k + 1)) (nI_add _ _) ?_
  refine va_sld hx hb hX hbl hbA hS (i := nI (1 + 4 * k + 1)) (vp_in_nI (by omega) (by omega)) dL_law_242 ?_
  refine lv_as (y := xs (1 + 4 * k + 1)) (by rw [nI_clamp (by omega)]) ?_
  refine wr_Vi (wr := (mW m0 m1 m2 m3 m4 m5 cB cI n L' fd fc op tn' eb' ec' th) ++ [(o0, .inl (cL, 1, .inr (.inl ov)))]) (wo := (jW b0 b1 b2 a0 a1 a2 a3 m0 m1 m2 m3 m4 m5 o0 cB cI cL n (dropF L op tn eb ec (xs (1 + 4 * k + 1)).toInt).1 fd fc op (dropF L op tn eb ec (xs (1 + 4 * k + 1)).toInt).2.1 (dropF L op tn eb ec (xs (1 + 4 * k + 1)).toInt).2.2.1 (dropF L op tn eb ec (xs (1 + 4 * k + 1)).toInt).2.2.2.1 L' fd fc op tn' eb' ec' th ov)) (As := [.int (xs (1 + 4 * k + 1))]) (rest := []) ⟨hx, hb, hml, hown, hts⟩ (c_X1_drop l D b0 b1 b2 a0 a1 a2 a3 cB cI n L fd fc op tn eb ec (xs (1 + 4 * k + 1)) (xs (1 + 4 * k + 1)).toInt H.size j1a j1b j2a j6a j7a j5 ht rfl) (cwV 1 hts gL_law_X1_drop rfl rfl rfl (by decide +kernel) ⟨Nat.le_of_ble_eq_true rfl, Nat.le_of_ble_eq_true rfl⟩) hK2 hP hD hS hA [0, 1, 2, 3, 4, 5, 6] [7, 8, 9, 10, 11, 12, 13] rfl rfl rfl rfl (by decide) [7, 8, 9, 10, 11, 12, 13, 0, 1, 2, 3, 4, 5, 6] rfl rfl (ci := 2) rfl rfl (q0 := 0) rfl rfl hl.1 rfl (Nat.le_of_ble_eq_true rfl) dL_law_243 ⟨hc1, hc2⟩ (fun H locs hP hD hS => ?_)
  refine lv_aload_n hx hb dL_law_246 rfl (lv_at hl 3 rfl) ?_
  refine lv_aload_n hx hb dL_law_247 rfl (lv_at hl 1 rfl) ?_
  refine lv_iload hx hb dL_law_248 (lv_at hl 0 rfl) ?_
  refine lv_iconst (v := nI 1) hx hb dL_law_250 (by decide +kernel) ?_
  refine lv_iadd hx hb dL_law_251 ?_
  refine lv_as (y := nI (1 + 4 * k + 1)) (nI_add _ _) ?_
  refine va_sld hx hb hX hbl hbA hS (i := nI (1 + 4 * k + 1)) (vp_in_nI (by omega) (by omega)) dL_law_252 ?_
  refine lv_as (y := xs (1 + 4 * k + 1)) (by rw [nI_clamp (by omega)]) ?_
  refine wr_Vi (wr := (bW b0 b1 b2 a0 a1 a2 a3 cB cI n (dropF L op tn eb ec (xs (1 + 4 * k + 1)).toInt).1 fd fc op (dropF L op tn eb ec (xs (1 + 4 * k + 1)).toInt).2.1 (dropF L op tn eb ec (xs (1 + 4 * k + 1)).toInt).2.2.1 (dropF L op tn eb ec (xs (1 + 4 * k + 1)).toInt).2.2.2.1) ++ [(o0, .inl (cL, 1, .inr (.inl ov)))]) (wo := (jW b0 b1 b2 a0 a1 a2 a3 m0 m1 m2 m3 m4 m5 o0 cB cI cL n (dropF L op tn eb ec (xs (1 + 4 * k + 1)).toInt).1 fd fc op (dropF L op tn eb ec (xs (1 + 4 * k + 1)).toInt).2.1 (dropF L op tn eb ec (xs (1 + 4 * k + 1)).toInt).2.2.1 (dropF L op tn eb ec (xs (1 + 4 * k + 1)).toInt).2.2.2.1 (dropF L' op tn' eb' ec' (xs (1 + 4 * k + 1)).toInt).1 fd fc op (dropF L' op tn' eb' ec' (xs (1 + 4 * k + 1)).toInt).2.1 (dropF L' op tn' eb' ec' (xs (1 + 4 * k + 1)).toInt).2.2.1 (dropF L' op tn' eb' ec' (xs (1 + 4 * k + 1)).toInt).2.2.2.1 0 ov)) (As := [.int (xs (1 + 4 * k + 1))]) (rest := [.int (dropF L op tn eb ec (xs (1 + 4 * k + 1)).toInt).2.2.2.2]) ⟨hx, hb, hml, hown, hts⟩ (c_X2_drop l D m0 m1 m2 m3 m4 m5 cB cI n L' fd fc op tn' eb' ec' th (xs (1 + 4 * k + 1)) (xs (1 + 4 * k + 1)).toInt H.size j1a j1b hg' j6b j7b j5 ht' rfl) (cwV 1 hts gL_law_X2_drop rfl rfl rfl (by decide +kernel) ⟨Nat.le_of_ble_eq_true rfl, Nat.le_of_ble_eq_true rfl⟩) hK2 hP hD hS hA [7, 8, 9, 10, 11, 12] [0, 1, 2, 3, 4, 5, 6, 13] rfl rfl rfl rfl (by decide) [0, 1, 2, 3, 4, 5, 6, 8, 9, 10, 11, 12, 13, 7] rfl rfl (ci := 3) rfl rfl (q0 := 7) rfl rfl hl.1 rfl (Nat.le_of_ble_eq_true rfl) dL_law_253 ⟨hc1, hc2⟩ (fun H locs hP hD hS => ?_)
  refine lv_icmp_eq hx hb dL_law_256 (tgt := 455) (by decide) (fun _ => ?_) (fun h => absurd jp.1 h)
  exact kk H locs ls ⟨_, _, _, _, _, _, _, _, _, _, _, _, _, _, jp.2, hP, hD, hS, hl⟩
set_option maxRecDepth 100000 in
set_option maxHeartbeats 4000000 in
theorem arm_5 {p : Program} {l : Launch} {e : Env} {s : State} {m : MethodId} {below : List Frame} {meth : Method} {c : Code} {b L0 : Nat} {xs : Nat → Int32} {D : va_G} {cB cI cL : ClassId} {b0 b1 b2 a0 a1 a2 a3 m0 m1 m2 m3 m4 m5 o0 k : Nat} {H : Heap} {locs : List Loc} {ls : Array Slot} {Q : State → Prop} (C : lawC p s m meth c b L0 xs D cB cI cL) (I : lawI s b D cB cI cL b0 b1 b2 a0 a1 a2 a3 m0 m1 m2 m3 m4 m5 o0 k H locs ls) (hk : 4 * k + 5 ≤ L0)
    (kk : ∀ (H : Heap) (locs : List Loc) (ls : Array Slot), lawI s b D cB cI cL b0 b1 b2 a0 a1 a2 a3 m0 m1 m2 m3 m4 m5 o0 k H locs ls → W p l e room_1 s m #[Value.ref b] below meth c H locs (14 + (k + 1)) (8909 + 6 * (k + 1)) Q (F0 m 455 ls [])) : W p l e room_1 s m #[Value.ref b] below meth c H locs (14 + k) (8909 + 6 * k) Q (F0 m 261 ls []) := by
  obtain ⟨hx, hb, hml, hr, hlocks, hown, htb, hX, hbl, hL0, hK, hSp⟩ := C
  obtain ⟨n, L, fd, fc, op, tn, eb, ec, L', tn', eb', ec', th, ov, J, hP, hD, hS, hl⟩ := I
  obtain ⟨⟨j1a, j1b⟩, ⟨j2a, j2b⟩, j3, j4, j5, ⟨j6a, j6b⟩, ⟨j7a, j7b⟩, ⟨j8a, j8b, j8c⟩, ⟨j9a, j9b⟩, j10⟩ := id J
  have hts : ∀ w ∈ wsL_law, w.before #[Value.ref b] s = true := fun w h => htb w (wsL_law_in w h)
  have hK2 : va_K D vwCl (ty2 cB cI) s := hK.sub [0, 1] rfl
  have hA : ∀ q : Nat, s.heap.size ≤ q → (fun q => s.heap.size ≤ q) q := fun q h => h
  have hbA : ¬ (fun q => s.heap.size ≤ q) b := Nat.not_le.mpr hbl
  have hg' : ∀ j, L'.1 j < 256 := fun j => by rw [j8a]; exact j2a j
  have ht : op ≠ 0 → tn = 1 ∨ tn = 2 := fun h => (j10 h).1
  have ht' : op ≠ 0 → tn' = 1 ∨ tn' = 2 := fun h => by rw [(j10 h).2.1]; exact (j10 h).1
  have hu : op ≠ 0 → tn < n := fun h => by have := ht h; omega
  have hu' : op ≠ 0 → tn' < n := fun h => by have := ht' h; omega
  have hp : op ≠ 0 → ∀ k, k < L.2.2.2 → L.2.1 k < 64 * n := fun h => (j10 h).2.2.2.2.2.1
  have hp' : op ≠ 0 → ∀ k, k < L'.2.2.2 → L'.2.1 k < 64 * n := fun h k hk => by rw [j8b]; exact hp h k (by have := (j10 h).2.2.2.2.1; omega)
  refine W.widen (k := 14 + (k + 1)) (n := 8909 + 6 * (k + 1)) (by omega) (by omega) ?_
  have hc1 : 14 + (k + 1) ≤ room_1.cells := by show 14 + (k + 1) ≤ 601024; omega
  have hc2 : 8909 + 6 * (k + 1) ≤ room_1.slots := by show 8909 + 6 * (k + 1) ≤ 7293000; omega
  have jp := J_crash J (xs (1 + 4 * k + 1)).toInt
  refine lv_aload_n hx hb dL_law_261 rfl (lv_at hl 2 rfl) ?_
  refine lv_aload_n hx hb dL_law_262 rfl (lv_at hl 1 rfl) ?_
  refine lv_iload hx hb dL_law_263 (lv_at hl 0 rfl) ?_
  refine lv_iconst (v := nI 1) hx hb dL_law_265 (by decide +kernel) ?_
  refine lv_iadd hx hb dL_law_266 ?_
  refine lv_as (y := nI (1 + 4 * k + 1)) (nI_add _ _) ?_
  refine va_sld hx hb hX hbl hbA hS (i := nI (1 + 4 * k + 1)) (vp_in_nI (by omega) (by omega)) dL_law_267 ?_
  refine lv_as (y := xs (1 + 4 * k + 1)) (by rw [nI_clamp (by omega)]) ?_
  refine wr_Vi (wr := (mW m0 m1 m2 m3 m4 m5 cB cI n L' fd fc op tn' eb' ec' th) ++ [(o0, .inl (cL, 1, .inr (.inl ov)))]) (wo := (jW b0 b1 b2 a0 a1 a2 a3 m0 m1 m2 m3 m4 m5 o0 cB cI cL n (crF L op (xs (1 + 4 * k + 1)).toInt).1 fd fc (crF L op (xs (1 + 4 * k + 1)).toInt).2.1 tn eb ec L' fd fc op tn' eb' ec' th ov)) (As := [.int (xs (1 + 4 * k + 1))]) (rest := []) ⟨hx, hb, hml, hown, hts⟩ (c_X1_crash l D b0 b1 b2 a0 a1 a2 a3 cB cI n L fd fc op tn eb ec (xs (1 + 4 * k + 1)) (xs (1 + 4 * k + 1)).toInt H.size j1b j5 j9a hp rfl) (cwV 1 hts gL_law_X1_crash rfl rfl rfl (by decide +kernel) ⟨Nat.le_of_ble_eq_true rfl, Nat.le_of_ble_eq_true rfl⟩) hK2 hP hD hS hA [0, 1, 2, 3, 4, 5, 6] [7, 8, 9, 10, 11, 12, 13] rfl rfl rfl rfl (by decide) [7, 8, 9, 10, 11, 12, 13, 0, 1, 2, 3, 4, 5, 6] rfl rfl (ci := 2) rfl rfl (q0 := 0) rfl rfl hl.1 rfl (Nat.le_of_ble_eq_true rfl) dL_law_268 ⟨hc1, hc2⟩ (fun H locs hP hD hS => ?_)
  refine lv_aload_n hx hb dL_law_271 rfl (lv_at hl 3 rfl) ?_
  refine lv_aload_n hx hb dL_law_272 rfl (lv_at hl 1 rfl) ?_
  refine lv_iload hx hb dL_law_273 (lv_at hl 0 rfl) ?_
  refine lv_iconst (v := nI 1) hx hb dL_law_275 (by decide +kernel) ?_
  refine lv_iadd hx hb dL_law_276 ?_
  refine lv_as (y := nI (1 + 4 * k + 1)) (nI_add _ _) ?_
  refine va_sld hx hb hX hbl hbA hS (i := nI (1 + 4 * k + 1)) (vp_in_nI (by omega) (by omega)) dL_law_277 ?_
  refine lv_as (y := xs (1 + 4 * k + 1)) (by rw [nI_clamp (by omega)]) ?_
  refine wr_Vi (wr := (bW b0 b1 b2 a0 a1 a2 a3 cB cI n (crF L op (xs (1 + 4 * k + 1)).toInt).1 fd fc (crF L op (xs (1 + 4 * k + 1)).toInt).2.1 tn eb ec) ++ [(o0, .inl (cL, 1, .inr (.inl ov)))]) (wo := (jW b0 b1 b2 a0 a1 a2 a3 m0 m1 m2 m3 m4 m5 o0 cB cI cL n (crF L op (xs (1 + 4 * k + 1)).toInt).1 fd fc (crF L op (xs (1 + 4 * k + 1)).toInt).2.1 tn eb ec (mcF L' op (xs (1 + 4 * k + 1)).toInt).1 fd fc (mcF L' op (xs (1 + 4 * k + 1)).toInt).2.1 tn' eb' ec' 0 ov)) (As := [.int (xs (1 + 4 * k + 1))]) (rest := [.int (crF L op (xs (1 + 4 * k + 1)).toInt).2.2]) ⟨hx, hb, hml, hown, hts⟩ (c_X2_crash l D m0 m1 m2 m3 m4 m5 cB cI n L' fd fc op tn' eb' ec' th (xs (1 + 4 * k + 1)) (xs (1 + 4 * k + 1)).toInt H.size j1b j5 j9b hp' rfl) (cwV 1 hts gL_law_X2_crash rfl rfl rfl (by decide +kernel) ⟨Nat.le_of_ble_eq_true rfl, Nat.le_of_ble_eq_true rfl⟩) hK2 hP hD hS hA [7, 8, 9, 10, 11, 12] [0, 1, 2, 3, 4, 5, 6, 13] rfl rfl rfl rfl (by decide) [0, 1, 2, 3, 4, 5, 6, 8, 9, 10, 11, 12, 13, 7] rfl rfl (ci := 3) rfl rfl (q0 := 7) rfl rfl hl.1 rfl (Nat.le_of_ble_eq_true rfl) dL_law_278 ⟨hc1, hc2⟩ (fun H locs hP hD hS => ?_)
  refine lv_icmp_eq hx hb dL_law_281 (tgt := 455) (by decide) (fun _ => ?_) (fun h => absurd jp.1 h)
  rw [← jp.2.1] at hP hD
  exact kk H locs ls ⟨_, _, _, _, _, _, _, _, _, _, _, _, _, _, jp.2.2, hP, hD, hS, hl⟩
set_option maxRecDepth 100000 in
set_option maxHeartbeats 4000000 in
theorem arm_6 {p : Program} {l : Launch} {e : Env} {s : State} {m : MethodId} {below : List Frame} {meth : Method} {c : Code} {b L0 : Nat} {xs : Nat → Int32} {D : va_G} {cB cI cL : ClassId} {b0 b1 b2 a0 a1 a2 a3 m0 m1 m2 m3 m4 m5 o0 k : Nat} {H : Heap} {locs : List Loc} {ls : Array Slot} {Q : State → Prop} (C : lawC p s m meth c b L0 xs D cB cI cL) (I : lawI s b D cB cI cL b0 b1 b2 a0 a1 a2 a3 m0 m1 m2 m3 m4 m5 o0 k H locs ls) (hk : 4 * k + 5 ≤ L0)
    (kk : ∀ (H : Heap) (locs : List Loc) (ls : Array Slot), lawI s b D cB cI cL b0 b1 b2 a0 a1 a2 a3 m0 m1 m2 m3 m4 m5 o0 k H locs ls → W p l e room_1 s m #[Value.ref b] below meth c H locs (14 + (k + 1)) (8909 + 6 * (k + 1)) Q (F0 m 455 ls [])) : W p l e room_1 s m #[Value.ref b] below meth c H locs (14 + k) (8909 + 6 * k) Q (F0 m 286 ls []) := by
  obtain ⟨hx, hb, hml, hr, hlocks, hown, htb, hX, hbl, hL0, hK, hSp⟩ := C
  obtain ⟨n, L, fd, fc, op, tn, eb, ec, L', tn', eb', ec', th, ov, J, hP, hD, hS, hl⟩ := I
  obtain ⟨⟨j1a, j1b⟩, ⟨j2a, j2b⟩, j3, j4, j5, ⟨j6a, j6b⟩, ⟨j7a, j7b⟩, ⟨j8a, j8b, j8c⟩, ⟨j9a, j9b⟩, j10⟩ := id J
  have hts : ∀ w ∈ wsL_law, w.before #[Value.ref b] s = true := fun w h => htb w (wsL_law_in w h)
  have hK2 : va_K D vwCl (ty2 cB cI) s := hK.sub [0, 1] rfl
  have hA : ∀ q : Nat, s.heap.size ≤ q → (fun q => s.heap.size ≤ q) q := fun q h => h
  have hbA : ¬ (fun q => s.heap.size ≤ q) b := Nat.not_le.mpr hbl
  have hg' : ∀ j, L'.1 j < 256 := fun j => by rw [j8a]; exact j2a j
  have ht : op ≠ 0 → tn = 1 ∨ tn = 2 := fun h => (j10 h).1
  have ht' : op ≠ 0 → tn' = 1 ∨ tn' = 2 := fun h => by rw [(j10 h).2.1]; exact (j10 h).1
  have hu : op ≠ 0 → tn < n := fun h => by have := ht h; omega
  have hu' : op ≠ 0 → tn' < n := fun h => by have := ht' h; omega
  have hp : op ≠ 0 → ∀ k, k < L.2.2.2 → L.2.1 k < 64 * n := fun h => (j10 h).2.2.2.2.2.1
  have hp' : op ≠ 0 → ∀ k, k < L'.2.2.2 → L'.2.1 k < 64 * n := fun h k hk => by rw [j8b]; exact hp h k (by have := (j10 h).2.2.2.2.1; omega)
  refine W.widen (k := 14 + (k + 1)) (n := 8909 + 6 * (k + 1)) (by omega) (by omega) ?_
  have hc1 : 14 + (k + 1) ≤ room_1.cells := by show 14 + (k + 1) ≤ 601024; omega
  have hc2 : 8909 + 6 * (k + 1) ≤ room_1.slots := by show 8909 + 6 * (k + 1) ≤ 7293000; omega
  have jp := J_reopen J
  refine lv_aload_n hx hb dL_law_286 rfl (lv_at hl 2 rfl) ?_
  refine wr_Vi (wr := (mW m0 m1 m2 m3 m4 m5 cB cI n L' fd fc op tn' eb' ec' th) ++ [(o0, .inl (cL, 1, .inr (.inl ov)))]) (wo := (jW b0 b1 b2 a0 a1 a2 a3 m0 m1 m2 m3 m4 m5 o0 cB cI cL n (w0 L) fd fc (if (rfR L.1 n eb).toInt = -1 then 1 else 0) (L.1 0) (rfE L.1 n eb) (rfC L.1 n) L' fd fc op tn' eb' ec' th ov)) (As := []) (rest := []) ⟨hx, hb, hml, hown, hts⟩ (c_X1_reopen l D b0 b1 b2 a0 a1 a2 a3 cB cI n L fd fc op tn eb ec   H.size j1a j1b j2a) (cwV 0 hts gL_law_X1_reopen rfl rfl rfl (by decide +kernel) ⟨Nat.le_of_ble_eq_true rfl, Nat.le_of_ble_eq_true rfl⟩) hK2 hP hD hS hA [0, 1, 2, 3, 4, 5, 6] [7, 8, 9, 10, 11, 12, 13] rfl rfl rfl rfl (by decide) [7, 8, 9, 10, 11, 12, 13, 0, 1, 2, 3, 4, 5, 6] rfl rfl (ci := 2) rfl rfl (q0 := 0) rfl rfl hl.1 rfl (Nat.le_of_ble_eq_true rfl) dL_law_287 ⟨hc1, hc2⟩ (fun H locs hP hD hS => ?_)
  refine lv_aload_n hx hb dL_law_290 rfl (lv_at hl 3 rfl) ?_
  refine wr_Vi (wr := (bW b0 b1 b2 a0 a1 a2 a3 cB cI n (w0 L) fd fc (if (rfR L.1 n eb).toInt = -1 then 1 else 0) (L.1 0) (rfE L.1 n eb) (rfC L.1 n)) ++ [(o0, .inl (cL, 1, .inr (.inl ov)))]) (wo := (jW b0 b1 b2 a0 a1 a2 a3 m0 m1 m2 m3 m4 m5 o0 cB cI cL n (w0 L) fd fc (if (rfR L.1 n eb).toInt = -1 then 1 else 0) (L.1 0) (rfE L.1 n eb) (rfC L.1 n) (w0 L') fd fc (rmF L'.1 n tn' eb' ec').1 (rmF L'.1 n tn' eb' ec').2.1 (rmF L'.1 n tn' eb' ec').2.2.1 (rmF L'.1 n tn' eb' ec').2.2.2.1 0 ov)) (As := []) (rest := [.int (if (rfR L.1 n eb).toInt = -1 then nI (rfC L.1 n) else -1 - (rfR L.1 n eb))]) ⟨hx, hb, hml, hown, hts⟩ (c_X2_reopen l D m0 m1 m2 m3 m4 m5 cB cI n L' fd fc op tn' eb' ec' th   H.size j1a j1b hg') (cwV 0 hts gL_law_X2_reopen rfl rfl rfl (by decide +kernel) ⟨Nat.le_of_ble_eq_true rfl, Nat.le_of_ble_eq_true rfl⟩) hK2 hP hD hS hA [7, 8, 9, 10, 11, 12] [0, 1, 2, 3, 4, 5, 6, 13] rfl rfl rfl rfl (by decide) [0, 1, 2, 3, 4, 5, 6, 8, 9, 10, 11, 12, 13, 7] rfl rfl (ci := 3) rfl rfl (q0 := 7) rfl rfl hl.1 rfl (Nat.le_of_ble_eq_true rfl) dL_law_291 ⟨hc1, hc2⟩ (fun H locs hP hD hS => ?_)
  refine lv_icmp_eq hx hb dL_law_294 (tgt := 455) (by decide) (fun _ => ?_) (fun h => absurd jp.1 h)
  rw [← jp.2.1] at hP hD
  exact kk H locs ls ⟨_, _, _, _, _, _, _, _, _, _, _, _, _, _, jp.2.2, hP, hD, hS, hl⟩
set_option maxRecDepth 100000 in
set_option maxHeartbeats 4000000 in
theorem arm_7 {p : Program} {l : Launch} {e : Env} {s : State} {m : MethodId} {below : List Frame} {meth : Method} {c : Code} {b L0 : Nat} {xs : Nat → Int32} {D : va_G} {cB cI cL : ClassId} {b0 b1 b2 a0 a1 a2 a3 m0 m1 m2 m3 m4 m5 o0 k : Nat} {H : Heap} {locs : List Loc} {ls : Array Slot} {Q : State → Prop} (C : lawC p s m meth c b L0 xs D cB cI cL) (I : lawI s b D cB cI cL b0 b1 b2 a0 a1 a2 a3 m0 m1 m2 m3 m4 m5 o0 k H locs ls) (hk : 4 * k + 5 ≤ L0)
    (kk : ∀ (H : Heap) (locs : List Loc) (ls : Array Slot), lawI s b D cB cI cL b0 b1 b2 a0 a1 a2 a3 m0 m1 m2 m3 m4 m5 o0 k H locs ls → W p l e room_1 s m #[Value.ref b] below meth c H locs (14 + (k + 1)) (8909 + 6 * (k + 1)) Q (F0 m 455 ls [])) : W p l e room_1 s m #[Value.ref b] below meth c H locs (14 + k) (8909 + 6 * k) Q (F0 m 299 ls []) := by
  obtain ⟨hx, hb, hml, hr, hlocks, hown, htb, hX, hbl, hL0, hK, hSp⟩ := C
  obtain ⟨n, L, fd, fc, op, tn, eb, ec, L', tn', eb', ec', th, ov, J, hP, hD, hS, hl⟩ := I
  obtain ⟨⟨j1a, j1b⟩, ⟨j2a, j2b⟩, j3, j4, j5, ⟨j6a, j6b⟩, ⟨j7a, j7b⟩, ⟨j8a, j8b, j8c⟩, ⟨j9a, j9b⟩, j10⟩ := id J
  have hts : ∀ w ∈ wsL_law, w.before #[Value.ref b] s = true := fun w h => htb w (wsL_law_in w h)
  have hK2 : va_K D vwCl (ty2 cB cI) s := hK.sub [0, 1] rfl
  have hA : ∀ q : Nat, s.heap.size ≤ q → (fun q => s.heap.size ≤ q) q := fun q h => h
  have hbA : ¬ (fun q => s.heap.size ≤ q) b := Nat.not_le.mpr hbl
  have hg' : ∀ j, L'.1 j < 256 := fun j => by rw [j8a]; exact j2a j
  have ht : op ≠ 0 → tn = 1 ∨ tn = 2 := fun h => (j10 h).1
  have ht' : op ≠ 0 → tn' = 1 ∨ tn' = 2 := fun h => by rw [(j10 h).2.1]; exact (j10 h).1
  have hu : op ≠ 0 → tn < n := fun h => by have := ht h; omega
  have hu' : op ≠ 0 → tn' < n := fun h => by have := ht' h; omega
  have hp : op ≠ 0 → ∀ k, k < L.2.2.2 → L.2.1 k < 64 * n := fun h => (j10 h).2.2.2.2.2.1
  have hp' : op ≠ 0 → ∀ k, k < L'.2.2.2 → L'.2.1 k < 64 * n := fun h k hk => by rw [j8b]; exact hp h k (by have := (j10 h).2.2.2.2.1; omega)
  refine W.widen (k := 14 + (k + 1)) (n := 8909 + 6 * (k + 1)) (by omega) (by omega) ?_
  have hc1 : 14 + (k + 1) ≤ room_1.cells := by show 14 + (k + 1) ≤ 601024; omega
  have hc2 : 8909 + 6 * (k + 1) ≤ room_1.slots := by show 8909 + 6 * (k + 1) ≤ 7293000; omega
  have jp := J_poke J (xs (1 + 4 * k + 1)).toInt (xs (1 + 4 * k + 2)).toInt (xs (1 + 4 * k + 3)).toInt
  refine lv_aload_n hx hb dL_law_299 rfl (lv_at hl 2 rfl) ?_
  refine lv_aload_n hx hb dL_law_300 rfl (lv_at hl 1 rfl) ?_
  refine lv_iload hx hb dL_law_301 (lv_at hl 0 rfl) ?_
  refine lv_iconst (v := nI 1) hx hb dL_law_303 (by decide +kernel) ?_
  refine lv_iadd hx hb dL_law_304 ?_
  refine lv_as (y := nI (1 + 4 * k + 1)) (nI_add _ _) ?_
  refine va_sld hx hb hX hbl hbA hS (i := nI (1 + 4 * k + 1)) (vp_in_nI (by omega) (by omega)) dL_law_305 ?_
  refine lv_as (y := xs (1 + 4 * k + 1)) (by rw [nI_clamp (by omega)]) ?_
  refine lv_aload_n hx hb dL_law_306 rfl (lv_at hl 1 rfl) ?_
  refine lv_iload hx hb dL_law_307 (lv_at hl 0 rfl) ?_
  refine lv_iconst (v := nI 2) hx hb dL_law_309 (by decide +kernel) ?_
  refine lv_iadd hx hb dL_law_310 ?_
  refine lv_as (y := nI (1 + 4 * k + 2)) (nI_add _ _) ?_
  refine va_sld hx hb hX hbl hbA hS (i := nI (1 + 4 * k + 2)) (vp_in_nI (by omega) (by omega)) dL_law_311 ?_
  refine lv_as (y := xs (1 + 4 * k + 2)) (by rw [nI_clamp (by omega)]) ?_
  refine lv_aload_n hx hb dL_law_312 rfl (lv_at hl 1 rfl) ?_
  refine lv_iload hx hb dL_law_313 (lv_at hl 0 rfl) ?_
  refine lv_iconst (v := nI 3) hx hb dL_law_315 (by decide +kernel) ?_
  refine lv_iadd hx hb dL_law_316 ?_
  refine lv_as (y := nI (1 + 4 * k + 3)) (nI_add _ _) ?_
  refine va_sld hx hb hX hbl hbA hS (i := nI (1 + 4 * k + 3)) (vp_in_nI (by omega) (by omega)) dL_law_317 ?_
  refine lv_as (y := xs (1 + 4 * k + 3)) (by rw [nI_clamp (by omega)]) ?_
  refine wr_Vi (wr := (mW m0 m1 m2 m3 m4 m5 cB cI n L' fd fc op tn' eb' ec' th) ++ [(o0, .inl (cL, 1, .inr (.inl ov)))]) (wo := (jW b0 b1 b2 a0 a1 a2 a3 m0 m1 m2 m3 m4 m5 o0 cB cI cL n (pkF n L (xs (1 + 4 * k + 1)).toInt (xs (1 + 4 * k + 2)).toInt (xs (1 + 4 * k + 3)).toInt).1 fd fc op tn eb ec L' fd fc op tn' eb' ec' th ov)) (As := [.int (xs (1 + 4 * k + 1)), .int (xs (1 + 4 * k + 2)), .int (xs (1 + 4 * k + 3))]) (rest := []) ⟨hx, hb, hml, hown, hts⟩ (c_X1_poke l D b0 b1 b2 a0 a1 a2 a3 cB cI n L fd fc op tn eb ec (xs (1 + 4 * k + 1)) (xs (1 + 4 * k + 2)) (xs (1 + 4 * k + 3)) (xs (1 + 4 * k + 1)).toInt (xs (1 + 4 * k + 2)).toInt (xs (1 + 4 * k + 3)).toInt H.size j1b rfl rfl rfl) (cwV 3 hts gL_law_X1_poke rfl rfl rfl (by decide +kernel) ⟨Nat.le_of_ble_eq_true rfl, Nat.le_of_ble_eq_true rfl⟩) hK2 hP hD hS hA [0, 1, 2, 3, 4, 5, 6] [7, 8, 9, 10, 11, 12, 13] rfl rfl rfl rfl (by decide) [7, 8, 9, 10, 11, 12, 13, 0, 1, 2, 3, 4, 5, 6] rfl rfl (ci := 2) rfl rfl (q0 := 0) rfl rfl hl.1 rfl (Nat.le_of_ble_eq_true rfl) dL_law_318 ⟨hc1, hc2⟩ (fun H locs hP hD hS => ?_)
  refine lv_aload_n hx hb dL_law_321 rfl (lv_at hl 3 rfl) ?_
  refine lv_aload_n hx hb dL_law_322 rfl (lv_at hl 1 rfl) ?_
  refine lv_iload hx hb dL_law_323 (lv_at hl 0 rfl) ?_
  refine lv_iconst (v := nI 1) hx hb dL_law_325 (by decide +kernel) ?_
  refine lv_iadd hx hb dL_law_326 ?_
  refine lv_as (y := nI (1 + 4 * k + 1)) (nI_add _ _) ?_
  refine va_sld hx hb hX hbl hbA hS (i := nI (1 + 4 * k + 1)) (vp_in_nI (by omega) (by omega)) dL_law_327 ?_
  refine lv_as (y := xs (1 + 4 * k + 1)) (by rw [nI_clamp (by omega)]) ?_
  refine lv_aload_n hx hb dL_law_328 rfl (lv_at hl 1 rfl) ?_
  refine lv_iload hx hb dL_law_329 (lv_at hl 0 rfl) ?_
  refine lv_iconst (v := nI 2) hx hb dL_law_331 (by decide +kernel) ?_
  refine lv_iadd hx hb dL_law_332 ?_
  refine lv_as (y := nI (1 + 4 * k + 2)) (nI_add _ _) ?_
  refine va_sld hx hb hX hbl hbA hS (i := nI (1 + 4 * k + 2)) (vp_in_nI (by omega) (by omega)) dL_law_333 ?_
  refine lv_as (y := xs (1 + 4 * k + 2)) (by rw [nI_clamp (by omega)]) ?_
  refine lv_aload_n hx hb dL_law_334 rfl (lv_at hl 1 rfl) ?_
  refine lv_iload hx hb dL_law_335 (lv_at hl 0 rfl) ?_
  refine lv_iconst (v := nI 3) hx hb dL_law_337 (by decide +kernel) ?_
  refine lv_iadd hx hb dL_law_338 ?_
  refine lv_as (y := nI (1 + 4 * k + 3)) (nI_add _ _) ?_
  refine va_sld hx hb hX hbl hbA hS (i := nI (1 + 4 * k + 3)) (vp_in_nI (by omega) (by omega)) dL_law_339 ?_
  refine lv_as (y := xs (1 + 4 * k + 3)) (by rw [nI_clamp (by omega)]) ?_
  refine wr_Vi (wr := (bW b0 b1 b2 a0 a1 a2 a3 cB cI n (pkF n L (xs (1 + 4 * k + 1)).toInt (xs (1 + 4 * k + 2)).toInt (xs (1 + 4 * k + 3)).toInt).1 fd fc op tn eb ec) ++ [(o0, .inl (cL, 1, .inr (.inl ov)))]) (wo := (jW b0 b1 b2 a0 a1 a2 a3 m0 m1 m2 m3 m4 m5 o0 cB cI cL n (pkF n L (xs (1 + 4 * k + 1)).toInt (xs (1 + 4 * k + 2)).toInt (xs (1 + 4 * k + 3)).toInt).1 fd fc op tn eb ec (pkF n L' (xs (1 + 4 * k + 1)).toInt (xs (1 + 4 * k + 2)).toInt (xs (1 + 4 * k + 3)).toInt).1 fd fc op tn' eb' ec' 0 ov)) (As := [.int (xs (1 + 4 * k + 1)), .int (xs (1 + 4 * k + 2)), .int (xs (1 + 4 * k + 3))]) (rest := [.int (pkF n L (xs (1 + 4 * k + 1)).toInt (xs (1 + 4 * k + 2)).toInt (xs (1 + 4 * k + 3)).toInt).2]) ⟨hx, hb, hml, hown, hts⟩ (c_X2_poke l D m0 m1 m2 m3 m4 m5 cB cI n L' fd fc op tn' eb' ec' th (xs (1 + 4 * k + 1)) (xs (1 + 4 * k + 2)) (xs (1 + 4 * k + 3)) (xs (1 + 4 * k + 1)).toInt (xs (1 + 4 * k + 2)).toInt (xs (1 + 4 * k + 3)).toInt H.size j1b rfl rfl rfl) (cwV 3 hts gL_law_X2_poke rfl rfl rfl (by decide +kernel) ⟨Nat.le_of_ble_eq_true rfl, Nat.le_of_ble_eq_true rfl⟩) hK2 hP hD hS hA [7, 8, 9, 10, 11, 12] [0, 1, 2, 3, 4, 5, 6, 13] rfl rfl rfl rfl (by decide) [0, 1, 2, 3, 4, 5, 6, 8, 9, 10, 11, 12, 13, 7] rfl rfl (ci := 3) rfl rfl (q0 := 7) rfl rfl hl.1 rfl (Nat.le_of_ble_eq_true rfl) dL_law_340 ⟨hc1, hc2⟩ (fun H locs hP hD hS => ?_)
  refine lv_icmp_eq hx hb dL_law_343 (tgt := 455) (by decide) (fun _ => ?_) (fun h => absurd jp.1 h)
  exact kk H locs ls ⟨_, _, _, _, _, _, _, _, _, _, _, _, _, _, jp.2, hP, hD, hS, hl⟩
set_option maxRecDepth 100000 in
set_option maxHeartbeats 4000000 in
theorem arm_8 {p : Program} {l : Launch} {e : Env} {s : State} {m : MethodId} {below : List Frame} {meth : Method} {c : Code} {b L0 : Nat} {xs : Nat → Int32} {D : va_G} {cB cI cL : ClassId} {b0 b1 b2 a0 a1 a2 a3 m0 m1 m2 m3 m4 m5 o0 k : Nat} {H : Heap} {locs : List Loc} {ls : Array Slot} {Q : State → Prop} (C : lawC p s m meth c b L0 xs D cB cI cL) (I : lawI s b D cB cI cL b0 b1 b2 a0 a1 a2 a3 m0 m1 m2 m3 m4 m5 o0 k H locs ls) (hk : 4 * k + 5 ≤ L0)
    (kk : ∀ (H : Heap) (locs : List Loc) (ls : Array Slot), lawI s b D cB cI cL b0 b1 b2 a0 a1 a2 a3 m0 m1 m2 m3 m4 m5 o0 k H locs ls → W p l e room_1 s m #[Value.ref b] below meth c H locs (14 + (k + 1)) (8909 + 6 * (k + 1)) Q (F0 m 455 ls [])) : W p l e room_1 s m #[Value.ref b] below meth c H locs (14 + k) (8909 + 6 * k) Q (F0 m 348 ls []) := by
  obtain ⟨hx, hb, hml, hr, hlocks, hown, htb, hX, hbl, hL0, hK, hSp⟩ := C
  obtain ⟨n, L, fd, fc, op, tn, eb, ec, L', tn', eb', ec', th, ov, J, hP, hD, hS, hl⟩ := I
  obtain ⟨⟨j1a, j1b⟩, ⟨j2a, j2b⟩, j3, j4, j5, ⟨j6a, j6b⟩, ⟨j7a, j7b⟩, ⟨j8a, j8b, j8c⟩, ⟨j9a, j9b⟩, j10⟩ := id J
  have hts : ∀ w ∈ wsL_law, w.before #[Value.ref b] s = true := fun w h => htb w (wsL_law_in w h)
  have hK2 : va_K D vwCl (ty2 cB cI) s := hK.sub [0, 1] rfl
  have hA : ∀ q : Nat, s.heap.size ≤ q → (fun q => s.heap.size ≤ q) q := fun q h => h
  have hbA : ¬ (fun q => s.heap.size ≤ q) b := Nat.not_le.mpr hbl
  have hg' : ∀ j, L'.1 j < 256 := fun j => by rw [j8a]; exact j2a j
  have ht : op ≠ 0 → tn = 1 ∨ tn = 2 := fun h => (j10 h).1
  have ht' : op ≠ 0 → tn' = 1 ∨ tn' = 2 := fun h => by rw [(j10 h).2.1]; exact (j10 h).1
  have hu : op ≠ 0 → tn < n := fun h => by have := ht h; omega
  have hu' : op ≠ 0 → tn' < n := fun h => by have := ht' h; omega
  have hp : op ≠ 0 → ∀ k, k < L.2.2.2 → L.2.1 k < 64 * n := fun h => (j10 h).2.2.2.2.2.1
  have hp' : op ≠ 0 → ∀ k, k < L'.2.2.2 → L'.2.1 k < 64 * n := fun h k hk => by rw [j8b]; exact hp h k (by have := (j10 h).2.2.2.2.1; omega)
  refine W.widen (k := 14 + (k + 1)) (n := 8909 + 6 * (k + 1)) (by omega) (by omega) ?_
  have hc1 : 14 + (k + 1) ≤ room_1.cells := by show 14 + (k + 1) ≤ 601024; omega
  have hc2 : 8909 + 6 * (k + 1) ≤ room_1.slots := by show 8909 + 6 * (k + 1) ≤ 7293000; omega
  refine lv_aload_n hx hb dL_law_348 rfl (lv_at hl 2 rfl) ?_
  refine rd_V (As := []) (rest := []) ⟨hx, hb, hml, hown, hts⟩ (c_X1_badAt l D b0 b1 b2 a0 a1 a2 a3 cB cI n L fd fc op tn eb ec   j1b j2a j6a j7a j5 hu) (cwV 0 hts gL_law_X1_badAt rfl rfl rfl (by decide +kernel) ⟨Nat.le_of_ble_eq_true rfl, Nat.le_of_ble_eq_true rfl⟩) hK2 hP [0, 1, 2, 3, 4, 5, 6] rfl (ci := 2) rfl rfl (q0 := 0) rfl rfl hl.1 rfl (Nat.le_of_ble_eq_true rfl) dL_law_349 ⟨hc1, hc2⟩ (fun r hr9 => ?_)
  subst hr9
  refine lv_aload_n hx hb dL_law_352 rfl (lv_at hl 3 rfl) ?_
  refine wr_Vi (wr := (bW b0 b1 b2 a0 a1 a2 a3 cB cI n L fd fc op tn eb ec) ++ [(o0, .inl (cL, 1, .inr (.inl ov)))]) (wo := (jW b0 b1 b2 a0 a1 a2 a3 m0 m1 m2 m3 m4 m5 o0 cB cI cL n L fd fc op tn eb ec L' fd fc op tn' eb' ec' 0 ov)) (As := []) (rest := [.int (q_bad L.1 (bO eb ec) op tn ec)]) ⟨hx, hb, hml, hown, hts⟩ (c_X2_badAt l D m0 m1 m2 m3 m4 m5 cB cI n L' fd fc op tn' eb' ec' th   H.size j1a j1b hg' j6b j7b j5 hu') (cwV 0 hts gL_law_X2_badAt rfl rfl rfl (by decide +kernel) ⟨Nat.le_of_ble_eq_true rfl, Nat.le_of_ble_eq_true rfl⟩) hK2 hP hD hS hA [7, 8, 9, 10, 11, 12] [0, 1, 2, 3, 4, 5, 6, 13] rfl rfl rfl rfl (by decide) [0, 1, 2, 3, 4, 5, 6, 8, 9, 10, 11, 12, 13, 7] rfl rfl (ci := 3) rfl rfl (q0 := 7) rfl rfl hl.1 rfl (Nat.le_of_ble_eq_true rfl) dL_law_353 ⟨hc1, hc2⟩ (fun H locs hP hD hS => ?_)
  refine lv_icmp_eq hx hb dL_law_356 (tgt := 455) (by decide) (fun _ => ?_) (fun h => absurd (J_ans J).2.2.2.2 h)
  exact kk H locs ls ⟨_, _, _, _, _, _, _, _, _, _, _, _, _, _, J, hP, hD, hS, hl⟩
set_option maxRecDepth 100000 in
set_option maxHeartbeats 4000000 in
theorem arm_10 {p : Program} {l : Launch} {e : Env} {s : State} {m : MethodId} {below : List Frame} {meth : Method} {c : Code} {b L0 : Nat} {xs : Nat → Int32} {D : va_G} {cB cI cL : ClassId} {b0 b1 b2 a0 a1 a2 a3 m0 m1 m2 m3 m4 m5 o0 k : Nat} {H : Heap} {locs : List Loc} {ls : Array Slot} {Q : State → Prop} (C : lawC p s m meth c b L0 xs D cB cI cL) (I : lawI s b D cB cI cL b0 b1 b2 a0 a1 a2 a3 m0 m1 m2 m3 m4 m5 o0 k H locs ls) (hk : 4 * k + 5 ≤ L0)
    (kk : ∀ (H : Heap) (locs : List Loc) (ls : Array Slot), lawI s b D cB cI cL b0 b1 b2 a0 a1 a2 a3 m0 m1 m2 m3 m4 m5 o0 k H locs ls → W p l e room_1 s m #[Value.ref b] below meth c H locs (14 + (k + 1)) (8909 + 6 * (k + 1)) Q (F0 m 455 ls [])) : W p l e room_1 s m #[Value.ref b] below meth c H locs (14 + k) (8909 + 6 * k) Q (F0 m 429 ls []) := by
  obtain ⟨hx, hb, hml, hr, hlocks, hown, htb, hX, hbl, hL0, hK, hSp⟩ := C
  obtain ⟨n, L, fd, fc, op, tn, eb, ec, L', tn', eb', ec', th, ov, J, hP, hD, hS, hl⟩ := I
  obtain ⟨⟨j1a, j1b⟩, ⟨j2a, j2b⟩, j3, j4, j5, ⟨j6a, j6b⟩, ⟨j7a, j7b⟩, ⟨j8a, j8b, j8c⟩, ⟨j9a, j9b⟩, j10⟩ := id J
  have hts : ∀ w ∈ wsL_law, w.before #[Value.ref b] s = true := fun w h => htb w (wsL_law_in w h)
  have hK2 : va_K D vwCl (ty2 cB cI) s := hK.sub [0, 1] rfl
  have hA : ∀ q : Nat, s.heap.size ≤ q → (fun q => s.heap.size ≤ q) q := fun q h => h
  have hbA : ¬ (fun q => s.heap.size ≤ q) b := Nat.not_le.mpr hbl
  have hg' : ∀ j, L'.1 j < 256 := fun j => by rw [j8a]; exact j2a j
  have ht : op ≠ 0 → tn = 1 ∨ tn = 2 := fun h => (j10 h).1
  have ht' : op ≠ 0 → tn' = 1 ∨ tn' = 2 := fun h => by rw [(j10 h).2.1]; exact (j10 h).1
  have hu : op ≠ 0 → tn < n := fun h => by have := ht h; omega
  have hu' : op ≠ 0 → tn' < n := fun h => by have := ht' h; omega
  have hp : op ≠ 0 → ∀ k, k < L.2.2.2 → L.2.1 k < 64 * n := fun h => (j10 h).2.2.2.2.2.1
  have hp' : op ≠ 0 → ∀ k, k < L'.2.2.2 → L'.2.1 k < 64 * n := fun h k hk => by rw [j8b]; exact hp h k (by have := (j10 h).2.2.2.2.1; omega)
  refine W.widen (k := 14 + (k + 1)) (n := 8909 + 6 * (k + 1)) (by omega) (by omega) ?_
  have hc1 : 14 + (k + 1) ≤ room_1.cells := by show 14 + (k + 1) ≤ 601024; omega
  have hc2 : 8909 + 6 * (k + 1) ≤ room_1.slots := by show 8909 + 6 * (k + 1) ≤ 7293000; omega
  refine lv_aload_n hx hb dL_law_429 rfl (lv_at hl 2 rfl) ?_
  refine rd_V (As := []) (rest := []) ⟨hx, hb, hml, hown, hts⟩ (c_X1_free l D b0 b1 b2 a0 a1 a2 a3 cB cI n L fd fc op tn eb ec   j5) (cwV 0 hts gL_law_X1_free rfl rfl rfl (by decide +kernel) ⟨Nat.le_of_ble_eq_true rfl, Nat.le_of_ble_eq_true rfl⟩) hK2 hP [0, 1, 2, 3, 4, 5, 6] rfl (ci := 2) rfl rfl (q0 := 0) rfl rfl hl.1 rfl (Nat.le_of_ble_eq_true rfl) dL_law_430 ⟨hc1, hc2⟩ (fun r hr9 => ?_)
  subst hr9
  refine lv_aload_n hx hb dL_law_433 rfl (lv_at hl 3 rfl) ?_
  refine wr_Vi (wr := (bW b0 b1 b2 a0 a1 a2 a3 cB cI n L fd fc op tn eb ec) ++ [(o0, .inl (cL, 1, .inr (.inl ov)))]) (wo := (jW b0 b1 b2 a0 a1 a2 a3 m0 m1 m2 m3 m4 m5 o0 cB cI cL n L fd fc op tn eb ec L' fd fc op tn' eb' ec' 0 ov)) (As := []) (rest := [.int (q_free op n ec)]) ⟨hx, hb, hml, hown, hts⟩ (c_X2_free l D m0 m1 m2 m3 m4 m5 cB cI n L' fd fc op tn' eb' ec' th   H.size j5) (cwV 0 hts gL_law_X2_free rfl rfl rfl (by decide +kernel) ⟨Nat.le_of_ble_eq_true rfl, Nat.le_of_ble_eq_true rfl⟩) hK2 hP hD hS hA [7, 8, 9, 10, 11, 12] [0, 1, 2, 3, 4, 5, 6, 13] rfl rfl rfl rfl (by decide) [0, 1, 2, 3, 4, 5, 6, 8, 9, 10, 11, 12, 13, 7] rfl rfl (ci := 3) rfl rfl (q0 := 7) rfl rfl hl.1 rfl (Nat.le_of_ble_eq_true rfl) dL_law_434 ⟨hc1, hc2⟩ (fun H locs hP hD hS => ?_)
  refine lv_icmp_eq hx hb dL_law_437 (tgt := 455) (by decide) (fun _ => ?_) (fun h => absurd (J_ans J).2.2.1 h)
  exact kk H locs ls ⟨_, _, _, _, _, _, _, _, _, _, _, _, _, _, J, hP, hD, hS, hl⟩
set_option maxRecDepth 100000 in
set_option maxHeartbeats 4000000 in
theorem arm_11 {p : Program} {l : Launch} {e : Env} {s : State} {m : MethodId} {below : List Frame} {meth : Method} {c : Code} {b L0 : Nat} {xs : Nat → Int32} {D : va_G} {cB cI cL : ClassId} {b0 b1 b2 a0 a1 a2 a3 m0 m1 m2 m3 m4 m5 o0 k : Nat} {H : Heap} {locs : List Loc} {ls : Array Slot} {Q : State → Prop} (C : lawC p s m meth c b L0 xs D cB cI cL) (I : lawI s b D cB cI cL b0 b1 b2 a0 a1 a2 a3 m0 m1 m2 m3 m4 m5 o0 k H locs ls) (hk : 4 * k + 5 ≤ L0)
    (kk : ∀ (H : Heap) (locs : List Loc) (ls : Array Slot), lawI s b D cB cI cL b0 b1 b2 a0 a1 a2 a3 m0 m1 m2 m3 m4 m5 o0 k H locs ls → W p l e room_1 s m #[Value.ref b] below meth c H locs (14 + (k + 1)) (8909 + 6 * (k + 1)) Q (F0 m 455 ls [])) : W p l e room_1 s m #[Value.ref b] below meth c H locs (14 + k) (8909 + 6 * k) Q (F0 m 442 ls []) := by
  obtain ⟨hx, hb, hml, hr, hlocks, hown, htb, hX, hbl, hL0, hK, hSp⟩ := C
  obtain ⟨n, L, fd, fc, op, tn, eb, ec, L', tn', eb', ec', th, ov, J, hP, hD, hS, hl⟩ := I
  obtain ⟨⟨j1a, j1b⟩, ⟨j2a, j2b⟩, j3, j4, j5, ⟨j6a, j6b⟩, ⟨j7a, j7b⟩, ⟨j8a, j8b, j8c⟩, ⟨j9a, j9b⟩, j10⟩ := id J
  have hts : ∀ w ∈ wsL_law, w.before #[Value.ref b] s = true := fun w h => htb w (wsL_law_in w h)
  have hK2 : va_K D vwCl (ty2 cB cI) s := hK.sub [0, 1] rfl
  have hA : ∀ q : Nat, s.heap.size ≤ q → (fun q => s.heap.size ≤ q) q := fun q h => h
  have hbA : ¬ (fun q => s.heap.size ≤ q) b := Nat.not_le.mpr hbl
  have hg' : ∀ j, L'.1 j < 256 := fun j => by rw [j8a]; exact j2a j
  have ht : op ≠ 0 → tn = 1 ∨ tn = 2 := fun h => (j10 h).1
  have ht' : op ≠ 0 → tn' = 1 ∨ tn' = 2 := fun h => by rw [(j10 h).2.1]; exact (j10 h).1
  have hu : op ≠ 0 → tn < n := fun h => by have := ht h; omega
  have hu' : op ≠ 0 → tn' < n := fun h => by have := ht' h; omega
  have hp : op ≠ 0 → ∀ k, k < L.2.2.2 → L.2.1 k < 64 * n := fun h => (j10 h).2.2.2.2.2.1
  have hp' : op ≠ 0 → ∀ k, k < L'.2.2.2 → L'.2.1 k < 64 * n := fun h k hk => by rw [j8b]; exact hp h k (by have := (j10 h).2.2.2.2.1; omega)
  refine W.widen (k := 14 + (k + 1)) (n := 8909 + 6 * (k + 1)) (by omega) (by omega) ?_
  have hc1 : 14 + (k + 1) ≤ room_1.cells := by show 14 + (k + 1) ≤ 601024; omega
  have hc2 : 8909 + 6 * (k + 1) ≤ room_1.slots := by show 8909 + 6 * (k + 1) ≤ 7293000; omega
  refine lv_aload_n hx hb dL_law_442 rfl (lv_at hl 2 rfl) ?_
  refine rd_V (As := []) (rest := []) ⟨hx, hb, hml, hown, hts⟩ (c_X1_root l D b0 b1 b2 a0 a1 a2 a3 cB cI n L fd fc op tn eb ec   j5) (cwV 0 hts gL_law_X1_root rfl rfl rfl (by decide +kernel) ⟨Nat.le_of_ble_eq_true rfl, Nat.le_of_ble_eq_true rfl⟩) hK2 hP [0, 1, 2, 3, 4, 5, 6] rfl (ci := 2) rfl rfl (q0 := 0) rfl rfl hl.1 rfl (Nat.le_of_ble_eq_true rfl) dL_law_443 ⟨hc1, hc2⟩ (fun r hr9 => ?_)
  subst hr9
  refine lv_aload_n hx hb dL_law_446 rfl (lv_at hl 3 rfl) ?_
  refine wr_Vi (wr := (bW b0 b1 b2 a0 a1 a2 a3 cB cI n L fd fc op tn eb ec) ++ [(o0, .inl (cL, 1, .inr (.inl ov)))]) (wo := (jW b0 b1 b2 a0 a1 a2 a3 m0 m1 m2 m3 m4 m5 o0 cB cI cL n L fd fc op tn eb ec L' fd fc op tn' eb' ec' 0 ov)) (As := []) (rest := [.int (q_root op tn)]) ⟨hx, hb, hml, hown, hts⟩ (c_X2_root l D m0 m1 m2 m3 m4 m5 cB cI n L' fd fc op tn' eb' ec' th   H.size j5) (cwV 0 hts gL_law_X2_root rfl rfl rfl (by decide +kernel) ⟨Nat.le_of_ble_eq_true rfl, Nat.le_of_ble_eq_true rfl⟩) hK2 hP hD hS hA [7, 8, 9, 10, 11, 12] [0, 1, 2, 3, 4, 5, 6, 13] rfl rfl rfl rfl (by decide) [0, 1, 2, 3, 4, 5, 6, 8, 9, 10, 11, 12, 13, 7] rfl rfl (ci := 3) rfl rfl (q0 := 7) rfl rfl hl.1 rfl (Nat.le_of_ble_eq_true rfl) dL_law_447 ⟨hc1, hc2⟩ (fun H locs hP hD hS => ?_)
  refine lv_icmp_eq hx hb dL_law_450 (tgt := 455) (by decide) (fun _ => ?_) (fun h => absurd (J_ans J).2.2.2.1 h)
  exact kk H locs ls ⟨_, _, _, _, _, _, _, _, _, _, _, _, _, _, J, hP, hD, hS, hl⟩
