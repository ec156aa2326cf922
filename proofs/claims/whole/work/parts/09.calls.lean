/-! 09: PuzzleBook, its calls that write (laid by wip/whole/gen/gen_api.py) -/
def t12 (g : Nat → Nat) : Prop := g 0 = 1 ∨ g 0 = 2
noncomputable def rfE (g : Nat → Nat) (n : Nat) (eb : Nat → Nat) : Nat → Nat := @ite _ (t12 g) (Classical.propDecidable _) (cpE g (g 0) eb (rdN g (g 0) n)) eb
noncomputable def rfC (g : Nat → Nat) (n : Nat) : Nat := @ite _ (t12 g) (Classical.propDecidable _) (rdN g (g 0) n) 0
noncomputable def rfR (g : Nat → Nat) (n : Nat) (eb : Nat → Nat) : Int32 := @ite _ (t12 g) (Classical.propDecidable _) (@ite _ (rdO g (g 0) n) (Classical.propDecidable _) (lwI (lwN (wrE g) (bO (cpE g (g 0) eb (rdN g (g 0) n)) (rdN g (g 0) n)) (rdN g (g 0) n))) (nI (g 0))) (nI 0)
theorem rfE_t {g : Nat → Nat} {n : Nat} {eb : Nat → Nat} (h : t12 g) : rfE g n eb = cpE g (g 0) eb (rdN g (g 0) n) := if_pos h
theorem rfE_f {g : Nat → Nat} {n : Nat} {eb : Nat → Nat} (h : ¬ t12 g) : rfE g n eb = eb := if_neg h
theorem rfC_t {g : Nat → Nat} {n : Nat} (h : t12 g) : rfC g n = rdN g (g 0) n := if_pos h
theorem rfC_f {g : Nat → Nat} {n : Nat} (h : ¬ t12 g) : rfC g n = 0 := if_neg h
theorem rfR_f {g : Nat → Nat} {n : Nat} {eb : Nat → Nat} (h : ¬ t12 g) : rfR g n eb = nI 0 := if_neg h
theorem rfR_tf {g : Nat → Nat} {n : Nat} {eb : Nat → Nat} (h : t12 g) (h2 : ¬ rdO g (g 0) n) : rfR g n eb = nI (g 0) := (if_pos h).trans (if_neg h2)
theorem rfR_tt {g : Nat → Nat} {n : Nat} {eb : Nat → Nat} (h : t12 g) (h2 : rdO g (g 0) n) : rfR g n eb = lwI (lwN (wrE g) (bO (cpE g (g 0) eb (rdN g (g 0) n)) (rdN g (g 0) n)) (rdN g (g 0) n)) := (if_pos h).trans (if_pos h2)
/-- feed: what is fed, how many, the answer -/
def fedF (fd : Nat → Nat) (fc : Nat) (z : Int) : (Nat → Nat) × Nat × Int32 := if 0 ≤ z ∧ z ≤ 255 ∧ fc < 48 then (va_up fd fc z.toNat, fc + 1, nI 1) else (fd, fc, nI 0)
/-- put: the log, how many are fed, the turn, the entries, how many, the answer -/
noncomputable def putF (n : Nat) (L : Lg) (fd : Nat → Nat) (fc op tn : Nat) (eb : Nat → Nat) (ec : Nat) (nz : Int) : Lg × Nat × Nat × (Nat → Nat) × Nat × Int32 :=
  if op ≠ 0 ∧ 0 ≤ nz ∧ nz ≤ 65535 ∧ fc ≠ 0 then
    (if fN (fun k => hF L.1 (bO eb ec k) fd fc) ec < ec then (L, 0, tn, eb, ec, nI (fN (fun k => hF L.1 (bO eb ec k) fd fc) ec))
    else if lfB (bO eb ec) ec n < n ∧ ec < 40 then
      (w1 (wR (wE (w0 L) (lfB (bO eb ec) ec n) nz.toNat fc fd) (3 - tn) (ec + 1) (bO (va_up eb ec (lfB (bO eb ec) ec n)) (ec + 1))) (64 * 0 + 0) (3 - tn), 0, 3 - tn, va_up eb ec (lfB (bO eb ec) ec n), ec + 1, nI ec)
    else (L, fc, tn, eb, ec, -1))
  else (L, fc, tn, eb, ec, -1)
/-- drop: the log, the turn, the entries, how many, the answer -/
def dropF (L : Lg) (op tn : Nat) (eb : Nat → Nat) (ec : Nat) (kz : Int) : Lg × Nat × (Nat → Nat) × Nat × Int32 :=
  if op ≠ 0 ∧ 0 ≤ kz ∧ kz < (ec : Int) then
    (w1 (wR (w0 L) (3 - tn) (ec - 1) (bO (shf eb kz.toNat (ec - 1 - kz.toNat)) (ec - 1))) (64 * 0 + 0) (3 - tn), 3 - tn, shf eb kz.toNat (ec - 1 - kz.toNat), ec - 1, nI 1)
  else (L, tn, eb, ec, nI 0)
/-- crash: the log, open or not, the answer -/
def crF (L : Lg) (op : Nat) (kz : Int) : Lg × Nat × Int32 := if op ≠ 0 ∧ L.2.2.2 ≠ 0 ∧ 0 ≤ kz ∧ kz ≤ (L.2.2.2 : Int) then (wU L kz.toNat, 0, nI 1) else (L, op, nI 0)
/-- poke: the log, the answer -/
def pkF (n : Nat) (L : Lg) (bz iz mz : Int) : Lg × Int32 := if (0 ≤ bz ∧ bz < (n : Int) ∧ 0 ≤ iz ∧ iz < 64) ∧ 1 ≤ mz ∧ mz ≤ 255 then (wX L (64 * bz.toNat + iz.toNat) mz.toNat, nI 1) else (L, nI 0)
theorem bO_add {eb : Nat → Nat} {ec b n : Nat} (hE : ∀ k, bO eb ec k < n) (hb : b < n) (k : Nat) : bO (va_up eb ec b) (ec + 1) k < n := by
  refine bO_lt (by omega) (fun j hj => ?_) k
  unfold va_up; split
  · exact hb
  · have h := hE j; rw [bO_t (by omega)] at h; exact h
theorem shf_at {eb : Nat → Nat} {k : Nat} : ∀ (j i : Nat), shf eb k j i = if k ≤ i ∧ i < k + j then eb (i + 1) else eb i
  | 0, i => by rw [if_neg (by omega)]; rfl
  | j + 1, i => by
    show va_up _ _ _ i = _
    unfold va_up
    by_cases h : i = k + j
    · rw [if_pos h, shf_at j (k + j + 1), if_neg (by omega), if_pos (by omega), h]
    · rw [if_neg h, shf_at j i]
      by_cases h2 : k ≤ i ∧ i < k + j
      · rw [if_pos h2, if_pos (by omega)]
      · rw [if_neg h2, if_neg (by omega)]
theorem shf_n {eb : Nat → Nat} {ec k n : Nat} (h0 : 0 < n) (hE : ∀ k, bO eb ec k < n) (hk : k < ec) (i : Nat) : bO (shf eb k (ec - 1 - k)) (ec - 1) i < n := by
  refine bO_lt h0 (fun j hj => ?_) i
  rw [shf_at]
  have h := hE j
  have h2 := hE (j + 1)
  rw [bO_t (by omega)] at h h2
  split
  · exact h2
  · exact h
set_option maxRecDepth 100000 in
set_option maxHeartbeats 4000000 in
/-- readRootBlock(block), with no entries yet -/
theorem c_X1_readRootBlock (l : Launch) (D : va_G) (b0 b1 b2 a0 a1 a2 a3 : Nat) (cB cI : ClassId) (n : Nat) (L : Lg) (fd : Nat → Nat) (fc : Nat) (op : Nat) (tn : Nat) (eb : Nat → Nat) (ec : Nat) (bk : Nat) (sz : Nat) (hn0 : 4 ≤ n) (hn : n ≤ 64) (hg : ∀ j, L.1 j < 256) (h0 : ec = 0) (h1 : bk < n) : Met l yX1_readRootBlock wsX1_readRootBlock ({ frames := 4, cells := 0, slots := 0, locals := 91 }) (wP [.ref b0, .int (nI bk)] D (bW b0 b1 b2 a0 a1 a2 a3 cB cI n L fd fc op tn eb ec) (ty2 cB cI) sz) (wQi (nI (b01 (rdO L.1 bk n))) D (bW b0 b1 b2 a0 a1 a2 a3 cB cI n L fd fc op tn (cpE L.1 bk eb (rdN L.1 bk n)) (rdN L.1 bk n)) (va_A (bW b0 b1 b2 a0 a1 a2 a3 cB cI n L fd fc op tn eb ec) sz)) 0 0 (va_A (bW b0 b1 b2 a0 a1 a2 a3 cB cI n L fd fc op tn eb ec) sz) := by
  subst h0
  refine met_wi (by decide) rfl (Nat.le_of_ble_eq_true rfl) ?_
  intro p e s m below meth c hx hb hml hr hlocks hown hts hP hK A hD hA hS ls hl
  have hown : s.vm.findClass RX1 = some m.cls := hown
  have hinX1 : ∀ w ∈ u_ws RX1 TX1 7, w ∈ wsX1_readRootBlock := by decide +kernel
  have hinX0 : ∀ w ∈ u_ws RX0 TX0 5, w ∈ wsX1_readRootBlock := by decide +kernel
  have hl : lv_has ls 5 [(0, .ref b0), (1, .int (nI bk))] := hl
  have g0 := hg (64 * bk)
  refine lv_aload_n hx hb dX1_readRootBlock_0 rfl (lv_at hl 0 rfl) ?_
  refine va_get (D := D) (ci := 2) (v := .ref a0) (C := RX1) (T := TX1) (N := 7) hx hb hts hinX1 hown hK hP 0 rfl rfl 0 (by decide) (hts (.fieldLink RX1 28 "PuzzleBook" "store" "LPuzzleBook$Store;") (by decide +kernel)) (fun _ h9 => h9) rfl dX1_readRootBlock_1 ?_
  refine lv_iload_n hx hb dX1_readRootBlock_4 rfl (lv_at hl 1 rfl) ?_
  refine lv_iconst (v := nI 0) hx hb dX1_readRootBlock_5 (by decide +kernel) ?_
  refine rd_V (As := [.int (nI bk), .int (nI 0)]) (rest := []) ⟨hx, hb, hml, hown, hts⟩ (c_X0_read l D a0 a1 a2 a3 cB cI n L bk 0 hn hg h1 (by decide)) (cwV 2 hts gX1_readRootBlock_X0_read rfl rfl rfl (by decide +kernel) ⟨Nat.le_of_ble_eq_true rfl, Nat.le_of_ble_eq_true rfl⟩) hK hP [3, 4, 5, 6] rfl (ci := 1) rfl rfl (q0 := 3) rfl rfl hl.1 rfl (Nat.le_of_ble_eq_true rfl) dX1_readRootBlock_6 ⟨Nat.zero_le _, Nat.zero_le _⟩ (fun r1 hr1 => ?_)
  subst hr1
  refine lv_as (y := nI (L.1 (64 * bk))) rfl ?_
  refine lv_istore_n (lv' := [(2, .int (nI (L.1 (64 * bk)))), (0, .ref b0), (1, .int (nI bk))]) hx hb dX1_readRootBlock_9 rfl hl (by decide) rfl (fun ls hl => ?_)
  refine lv_aload_n hx hb dX1_readRootBlock_10 rfl (lv_at hl 1 rfl) ?_
  refine va_get (D := D) (ci := 2) (v := .ref a0) (C := RX1) (T := TX1) (N := 7) hx hb hts hinX1 hown hK hP 0 rfl rfl 0 (by decide) (hts (.fieldLink RX1 28 "PuzzleBook" "store" "LPuzzleBook$Store;") (by decide +kernel)) (fun _ h9 => h9) rfl dX1_readRootBlock_11 ?_
  refine lv_iload_n hx hb dX1_readRootBlock_14 rfl (lv_at hl 2 rfl) ?_
  refine rd_V (As := [.int (nI bk)]) (rest := []) ⟨hx, hb, hml, hown, hts⟩ (c_X0_hasRightSum l D a0 a1 a2 a3 cB cI n L bk hn hg h1) (cwV 1 hts gX1_readRootBlock_X0_hasRightSum rfl rfl rfl (by decide +kernel) ⟨Nat.le_of_ble_eq_true rfl, Nat.le_of_ble_eq_true rfl⟩) hK hP [3, 4, 5, 6] rfl (ci := 1) rfl rfl (q0 := 3) rfl rfl hl.1 rfl (Nat.le_of_ble_eq_true rfl) dX1_readRootBlock_15 ⟨Nat.zero_le _, Nat.zero_le _⟩ (fun r2 hr2 => ?_)
  subst hr2
  by_cases q3 : (okS L.1 (64 * bk))
  · skip
    refine lv_as (y := nI 1) (congrArg nI (b01_t q3)) ?_
    refine j0_eq (tgt := 27) hx hb (nI_toInt (n := 1) (by decide)) dX1_readRootBlock_18 (by decide) (fun c4 => absurd c4 (by omega)) (fun c4 => ?_)
    refine lv_iload_n hx hb dX1_readRootBlock_21 rfl (lv_at hl 0 rfl) ?_
    refine lv_bipush (v := nI 40) hx hb dX1_readRootBlock_22 (by decide +kernel) ?_
    refine jb_le (tgt := 29) hx hb (nI_toInt (n := L.1 (64 * bk)) (by omega)) (nI_toInt (n := 40) (by decide)) dX1_readRootBlock_24 (by decide) (fun c5 => ?_) (fun c5 => ?_)
    · skip
      have hgd : gdR L.1 bk := ⟨q3, by omega⟩
      have loop : ∀ (fu k : Nat), k ≤ L.1 (64 * bk) → L.1 (64 * bk) - k < fu → (∀ j, j < k → ¬ badK L.1 bk n j) → ∀ (H : Heap) (locs : List Loc), va_P D vwCl (bW b0 b1 b2 a0 a1 a2 a3 cB cI n L fd fc op tn (cpE L.1 bk eb k) k) H → va_D A (bW b0 b1 b2 a0 a1 a2 a3 cB cI n L fd fc op tn (cpE L.1 bk eb k) k) → va_S A s.heap H locs → ∀ ls : Array Slot, lv_has ls 5 [(3, .int (nI k)), (2, .int (nI (L.1 (64 * bk)))), (0, .ref b0), (1, .int (nI bk))] → W p l e ({ frames := 4, cells := 0, slots := 0, locals := 91 }) s m [.ref b0, .int (nI bk)].toArray below meth c H locs 0 0 (MQ below (wQi (nI (b01 (rdO L.1 bk n))) D (bW b0 b1 b2 a0 a1 a2 a3 cB cI n L fd fc op tn (cpE L.1 bk eb (rdN L.1 bk n)) (rdN L.1 bk n)) A) [.ref b0, .int (nI bk)].toArray s 0 0 A) (F0 m 31 ls []) := by
        intro fu
        induction fu with
        | zero => intro k hk hf; omega
        | succ fu ih =>
          intro k hk hfu hi H locs hP hD hS ls hl
          refine lv_iload_n hx hb dX1_readRootBlock_31 rfl (lv_at hl 0 rfl) ?_
          refine lv_iload_n hx hb dX1_readRootBlock_32 rfl (lv_at hl 1 rfl) ?_
          refine jb_ge (tgt := 90) hx hb (nI_toInt (n := k) (by omega)) (nI_toInt (n := L.1 (64 * bk)) (by omega)) dX1_readRootBlock_33 (by decide) (fun c6 => ?_) (fun c6 => ?_)
          · skip
            refine lv_iconst (v := nI 1) hx hb dX1_readRootBlock_90 (by decide +kernel) ?_
            have hk9 : k = L.1 (64 * bk) := by omega
            have e9 : rdN L.1 bk n = k := by rw [rdN_t hgd, hk9]; exact fN_no (fun j hj => hi j (by omega))
            rw [e9]
            exact rt_wz hx hb hr hlocks hP hD hS dX1_readRootBlock_91 (by decide +kernel) (by rw [b01_t ⟨hgd, fun j hj => hi j (by omega)⟩])
          · skip
            refine lv_aload_n hx hb dX1_readRootBlock_36 rfl (lv_at hl 2 rfl) ?_
            refine va_get (D := D) (ci := 2) (v := .ref a0) (C := RX1) (T := TX1) (N := 7) hx hb hts hinX1 hown hK hP 0 rfl rfl 0 (by decide) (hts (.fieldLink RX1 28 "PuzzleBook" "store" "LPuzzleBook$Store;") (by decide +kernel)) (fun _ h9 => h9) rfl dX1_readRootBlock_37 ?_
            refine lv_iload_n hx hb dX1_readRootBlock_40 rfl (lv_at hl 3 rfl) ?_
            refine lv_iconst (v := nI 1) hx hb dX1_readRootBlock_41 (by decide +kernel) ?_
            refine lv_iload_n hx hb dX1_readRootBlock_42 rfl (lv_at hl 0 rfl) ?_
            refine lv_iadd hx hb dX1_readRootBlock_43 ?_
            refine lv_as (y := nI (1 + k)) (nI_add _ _) ?_
            refine rd_V (As := [.int (nI bk), .int (nI (1 + k))]) (rest := []) ⟨hx, hb, hml, hown, hts⟩ (c_X0_read l D a0 a1 a2 a3 cB cI n L bk (1 + k) hn hg h1 (by omega)) (cwV 2 hts gX1_readRootBlock_X0_read rfl rfl rfl (by decide +kernel) ⟨Nat.le_of_ble_eq_true rfl, Nat.le_of_ble_eq_true rfl⟩) hK hP [3, 4, 5, 6] rfl (ci := 1) rfl rfl (q0 := 3) rfl rfl hl.1 rfl (Nat.le_of_ble_eq_true rfl) dX1_readRootBlock_44 ⟨Nat.zero_le _, Nat.zero_le _⟩ (fun r7 hr7 => ?_)
            subst hr7
            have g9 := hg (64 * bk + (1 + k))
            refine lv_istore (lv' := [(4, .int (nI (L.1 (64 * bk + (1 + k))))), (3, .int (nI k)), (2, .int (nI (L.1 (64 * bk)))), (0, .ref b0), (1, .int (nI bk))]) hx hb dX1_readRootBlock_47 hl (by decide) rfl (fun ls hl => ?_)
            refine lv_iload hx hb dX1_readRootBlock_49 (lv_at hl 0 rfl) ?_
            refine lv_iconst (v := nI 3) hx hb dX1_readRootBlock_51 (by decide +kernel) ?_
            refine jb_lt (tgt := 76) hx hb (nI_toInt (n := L.1 (64 * bk + (1 + k))) (by omega)) (nI_toInt (n := 3) (by decide)) dX1_readRootBlock_52 (by decide) (fun c8 => ?_) (fun c8 => ?_)
            · skip
              refine lv_iconst (v := nI 0) hx hb dX1_readRootBlock_76 (by decide +kernel) ?_
              have b9 : badK L.1 bk n k := Or.inl (by omega)
              have e9 : rdN L.1 bk n = k := by rw [rdN_t hgd]; exact fN_eq (by omega) b9 hi
              rw [e9]
              exact rt_wz hx hb hr hlocks hP hD hS dX1_readRootBlock_77 (by decide +kernel) (by rw [b01_f (fun h => h.2 k (by omega) b9)])
            · skip
              refine lv_iload hx hb dX1_readRootBlock_55 (lv_at hl 0 rfl) ?_
              refine lv_aload_n hx hb dX1_readRootBlock_57 rfl (lv_at hl 3 rfl) ?_
              refine va_get (D := D) (ci := 2) (v := .ref a0) (C := RX1) (T := TX1) (N := 7) hx hb hts hinX1 hown hK hP 0 rfl rfl 0 (by decide) (hts (.fieldLink RX1 28 "PuzzleBook" "store" "LPuzzleBook$Store;") (by decide +kernel)) (fun _ h9 => h9) rfl dX1_readRootBlock_58 ?_
              refine rd_V (As := []) (rest := [.int (nI (L.1 (64 * bk + (1 + k))))]) ⟨hx, hb, hml, hown, hts⟩ (c_X0_blockCount l D a0 a1 a2 a3 cB cI n L  ) (cwV 0 hts gX1_readRootBlock_X0_blockCount rfl rfl rfl (by decide +kernel) ⟨Nat.le_of_ble_eq_true rfl, Nat.le_of_ble_eq_true rfl⟩) hK hP [3, 4, 5, 6] rfl (ci := 1) rfl rfl (q0 := 3) rfl rfl hl.1 rfl (Nat.le_of_ble_eq_true rfl) dX1_readRootBlock_61 ⟨Nat.zero_le _, Nat.zero_le _⟩ (fun r9 hr9 => ?_)
              subst hr9
              refine jb_ge (tgt := 76) hx hb (nI_toInt (n := L.1 (64 * bk + (1 + k))) (by omega)) (nI_toInt (n := n) (by omega)) dX1_readRootBlock_64 (by decide) (fun c10 => ?_) (fun c10 => ?_)
              · skip
                refine lv_iconst (v := nI 0) hx hb dX1_readRootBlock_76 (by decide +kernel) ?_
                have b9 : badK L.1 bk n k := Or.inr (Or.inl (by omega))
                have e9 : rdN L.1 bk n = k := by rw [rdN_t hgd]; exact fN_eq (by omega) b9 hi
                rw [e9]
                exact rt_wz hx hb hr hlocks hP hD hS dX1_readRootBlock_77 (by decide +kernel) (by rw [b01_f (fun h => h.2 k (by omega) b9)])
              · skip
                refine lv_aload_n hx hb dX1_readRootBlock_67 rfl (lv_at hl 3 rfl) ?_
                refine lv_iload hx hb dX1_readRootBlock_68 (lv_at hl 0 rfl) ?_
                refine rd_V (As := [.int (nI (L.1 (64 * bk + (1 + k))))]) (rest := []) ⟨hx, hb, hml, hown, hts⟩ (c_X1_isTaken l D b0 b1 b2 a0 a1 a2 a3 cB cI n L fd fc op tn (cpE L.1 bk eb k) k (L.1 (64 * bk + (1 + k))) hn (by omega) (cpE_n (by omega) hi) (by omega)) (cwV 1 hts gX1_readRootBlock_X1_isTaken rfl rfl rfl (by decide +kernel) ⟨Nat.le_of_ble_eq_true rfl, Nat.le_of_ble_eq_true rfl⟩) hK hP [0, 1, 2, 3, 4, 5, 6] rfl (ci := 2) rfl rfl (q0 := 0) rfl rfl hl.1 rfl (Nat.le_of_ble_eq_true rfl) dX1_readRootBlock_70 ⟨Nat.zero_le _, Nat.zero_le _⟩ (fun r11 hr11 => ?_)
                subst hr11
                by_cases q12 : (tk (bO (cpE L.1 bk eb k) k) k (L.1 (64 * bk + (1 + k))))
                · skip
                  refine lv_as (y := nI 1) (congrArg nI (b01_t q12)) ?_
                  refine j0_eq (tgt := 78) hx hb (nI_toInt (n := 1) (by decide)) dX1_readRootBlock_73 (by decide) (fun c13 => absurd c13 (by omega)) (fun c13 => ?_)
                  refine lv_iconst (v := nI 0) hx hb dX1_readRootBlock_76 (by decide +kernel) ?_
                  have b9 : badK L.1 bk n k := Or.inr (Or.inr (tk_cpE.mp q12))
                  have e9 : rdN L.1 bk n = k := by rw [rdN_t hgd]; exact fN_eq (by omega) b9 hi
                  rw [e9]
                  exact rt_wz hx hb hr hlocks hP hD hS dX1_readRootBlock_77 (by decide +kernel) (by rw [b01_f (fun h => h.2 k (by omega) b9)])
                · skip
                  refine lv_as (y := nI 0) (congrArg nI (b01_f q12)) ?_
                  refine j0_eq (tgt := 78) hx hb (nI_toInt (n := 0) (by decide)) dX1_readRootBlock_73 (by decide) (fun c14 => ?_) (fun c14 => absurd c14 (by omega))
                  refine lv_aload_n hx hb dX1_readRootBlock_78 rfl (lv_at hl 3 rfl) ?_
                  refine lv_iload hx hb dX1_readRootBlock_79 (lv_at hl 0 rfl) ?_
                  refine wr_V (wr := []) (wo := (bW b0 b1 b2 a0 a1 a2 a3 cB cI n L fd fc op tn (va_up (cpE L.1 bk eb k) k (L.1 (64 * bk + (1 + k)))) (k + 1))) (As := [.int (nI (L.1 (64 * bk + (1 + k))))]) (rest := []) ⟨hx, hb, hml, hown, hts⟩ (c_X1_addEntryBlock l D b0 b1 b2 a0 a1 a2 a3 cB cI n L fd fc op tn (cpE L.1 bk eb k) k (L.1 (64 * bk + (1 + k))) H.size  (by omega)) (cwV 1 hts gX1_readRootBlock_X1_addEntryBlock rfl rfl rfl (by decide +kernel) ⟨Nat.le_of_ble_eq_true rfl, Nat.le_of_ble_eq_true rfl⟩) hK hP hD hS hA [0, 1, 2, 3, 4, 5, 6] [] rfl rfl rfl rfl (by decide) [0, 1, 2, 3, 4, 5, 6] rfl rfl (ci := 2) rfl rfl (q0 := 0) rfl rfl hl.1 rfl (Nat.le_of_ble_eq_true rfl) dX1_readRootBlock_81 ⟨Nat.zero_le _, Nat.zero_le _⟩ (fun H locs hP hD hS => ?_)
                  refine lv_iinc (v := nI (k + 1)) (lv' := [(3, .int (nI (k + 1))), (4, .int (nI (L.1 (64 * bk + (1 + k))))), (2, .int (nI (L.1 (64 * bk)))), (0, .ref b0), (1, .int (nI bk))]) hx hb dX1_readRootBlock_84 hl (k := 1) rfl (nI_add _ 1) (by decide) rfl (fun ls hl => ?_)
                  refine lv_goto (tgt := 31) hx hb dX1_readRootBlock_87 (by decide) ?_
                  exact ih (k + 1) (by omega) (by omega) (fun j q => (Nat.lt_or_eq_of_le (Nat.le_of_lt_succ q)).elim (hi j) (fun q => by rw [q]; exact fun z => z.elim (fun z => by omega) (fun z => z.elim (fun z => by omega) (fun z => q12 (tk_cpE.mpr z))))) H locs hP hD hS ls (lv_sub hl [0, 2, 3, 4] rfl)
      refine lv_iconst (v := nI 0) hx hb dX1_readRootBlock_29 (by decide +kernel) ?_
      refine lv_istore_n (lv' := [(3, .int (nI 0)), (2, .int (nI (L.1 (64 * bk)))), (0, .ref b0), (1, .int (nI bk))]) hx hb dX1_readRootBlock_30 rfl hl (by decide) rfl (fun ls hl => ?_)
      exact loop (L.1 (64 * bk) + 1) 0 (by omega) (by omega) (fun j q => absurd q (Nat.not_lt_zero j)) s.heap [] hP hD hS ls (lv_sub hl [0, 1, 2, 3] rfl)
    · skip
      refine lv_iconst (v := nI 0) hx hb dX1_readRootBlock_27 (by decide +kernel) ?_
      have e9 : rdN L.1 bk n = 0 := rdN_f (fun h => absurd h.2 (by omega))
      rw [e9]
      exact rt_wz hx hb hr hlocks hP hD hS dX1_readRootBlock_28 (by decide +kernel) (by rw [b01_f (fun h => (fun h => absurd h.2 (by omega)) h.1)])
  · skip
    refine lv_as (y := nI 0) (congrArg nI (b01_f q3)) ?_
    refine j0_eq (tgt := 27) hx hb (nI_toInt (n := 0) (by decide)) dX1_readRootBlock_18 (by decide) (fun c15 => ?_) (fun c15 => absurd c15 (by omega))
    refine lv_iconst (v := nI 0) hx hb dX1_readRootBlock_27 (by decide +kernel) ?_
    have e9 : rdN L.1 bk n = 0 := rdN_f (fun h => q3 h.1)
    rw [e9]
    exact rt_wz hx hb hr hlocks hP hD hS dX1_readRootBlock_28 (by decide +kernel) (by rw [b01_f (fun h => (fun h => q3 h.1) h.1)])
set_option maxRecDepth 100000 in
set_option maxHeartbeats 4000000 in
/-- readFromStore() -/
theorem c_X1_readFromStore (l : Launch) (D : va_G) (b0 b1 b2 a0 a1 a2 a3 : Nat) (cB cI : ClassId) (n : Nat) (L : Lg) (fd : Nat → Nat) (fc : Nat) (op : Nat) (tn : Nat) (eb : Nat → Nat) (ec : Nat)  (sz : Nat) (hn0 : 4 ≤ n) (hn : n ≤ 64) (hg : ∀ j, L.1 j < 256) : Met l yX1_readFromStore wsX1_readFromStore ({ frames := 5, cells := 0, slots := 0, locals := 115 }) (wP [.ref b0] D (bW b0 b1 b2 a0 a1 a2 a3 cB cI n L fd fc op tn eb ec) (ty2 cB cI) sz) (wQi ((rfR L.1 n eb)) D (bW b0 b1 b2 a0 a1 a2 a3 cB cI n L fd fc op (L.1 0) (rfE L.1 n eb) (rfC L.1 n)) (va_A (bW b0 b1 b2 a0 a1 a2 a3 cB cI n L fd fc op tn eb ec) sz)) 0 0 (va_A (bW b0 b1 b2 a0 a1 a2 a3 cB cI n L fd fc op tn eb ec) sz) := by
  refine met_wi (by decide) rfl (Nat.le_of_ble_eq_true rfl) ?_
  intro p e s m below meth c hx hb hml hr hlocks hown hts hP hK A hD hA hS ls hl
  have hown : s.vm.findClass RX1 = some m.cls := hown
  have hinX1 : ∀ w ∈ u_ws RX1 TX1 7, w ∈ wsX1_readFromStore := by decide +kernel
  have hinX0 : ∀ w ∈ u_ws RX0 TX0 5, w ∈ wsX1_readFromStore := by decide +kernel
  have hl : lv_has ls 1 [(0, .ref b0)] := hl
  have g0 := hg 0
  refine lv_aload_n hx hb dX1_readFromStore_0 rfl (lv_at hl 0 rfl) ?_
  refine lv_iconst (v := nI 0) hx hb dX1_readFromStore_1 (by decide +kernel) ?_
  refine va_put (D := D) (ci := 2) (v := .int (nI 0)) (ty := .int) (C := RX1) (T := TX1) (N := 7) hx hb hts hinX1 tyX1 tyX1_ok nmX1 hown hK hP hD hS 0 rfl rfl 6 (by decide) (hts (.fieldLink RX1 20 "PuzzleBook" "entryCount" "I") (by decide +kernel)) (fun _ h9 => h9) rfl (by decide +kernel) rfl rfl (Nat.le_of_ble_eq_true rfl) dX1_readFromStore_2 (fun H locs hP hD hS => ?_)
  have hP : va_P D vwCl (bW b0 b1 b2 a0 a1 a2 a3 cB cI n L fd fc op tn eb 0) H := hP
  have hD : va_D A (bW b0 b1 b2 a0 a1 a2 a3 cB cI n L fd fc op tn eb 0) := hD
  refine lv_aload_n hx hb dX1_readFromStore_5 rfl (lv_at hl 0 rfl) ?_
  refine lv_aload_n hx hb dX1_readFromStore_6 rfl (lv_at hl 0 rfl) ?_
  refine va_get (D := D) (ci := 2) (v := .ref a0) (C := RX1) (T := TX1) (N := 7) hx hb hts hinX1 hown hK hP 0 rfl rfl 0 (by decide) (hts (.fieldLink RX1 28 "PuzzleBook" "store" "LPuzzleBook$Store;") (by decide +kernel)) (fun _ h9 => h9) rfl dX1_readFromStore_7 ?_
  refine lv_iconst (v := nI 0) hx hb dX1_readFromStore_10 (by decide +kernel) ?_
  refine lv_iconst (v := nI 0) hx hb dX1_readFromStore_11 (by decide +kernel) ?_
  refine rd_V (As := [.int (nI 0), .int (nI 0)]) (rest := [.ref b0]) ⟨hx, hb, hml, hown, hts⟩ (c_X0_read l D a0 a1 a2 a3 cB cI n L 0 0 hn hg (by omega) (by decide)) (cwV 2 hts gX1_readFromStore_X0_read rfl rfl rfl (by decide +kernel) ⟨Nat.le_of_ble_eq_true rfl, Nat.le_of_ble_eq_true rfl⟩) hK hP [3, 4, 5, 6] rfl (ci := 1) rfl rfl (q0 := 3) rfl rfl hl.1 rfl (Nat.le_of_ble_eq_true rfl) dX1_readFromStore_12 ⟨Nat.zero_le _, Nat.zero_le _⟩ (fun r1 hr1 => ?_)
  subst hr1
  refine lv_as (y := nI (L.1 0)) rfl ?_
  refine va_put (D := D) (ci := 2) (v := .int (nI (L.1 0))) (ty := .int) (C := RX1) (T := TX1) (N := 7) hx hb hts hinX1 tyX1 tyX1_ok nmX1 hown hK hP hD hS 0 rfl rfl 4 (by decide) (hts (.fieldLink RX1 32 "PuzzleBook" "turn" "I") (by decide +kernel)) (fun _ h9 => h9) rfl (by decide +kernel) rfl rfl (Nat.le_of_ble_eq_true rfl) dX1_readFromStore_15 (fun H locs hP hD hS => ?_)
  have hP : va_P D vwCl (bW b0 b1 b2 a0 a1 a2 a3 cB cI n L fd fc op (L.1 0) eb 0) H := hP
  have hD : va_D A (bW b0 b1 b2 a0 a1 a2 a3 cB cI n L fd fc op (L.1 0) eb 0) := hD
  refine lv_aload_n hx hb dX1_readFromStore_18 rfl (lv_at hl 0 rfl) ?_
  refine va_get (D := D) (ci := 2) (v := .int (nI (L.1 0))) (C := RX1) (T := TX1) (N := 7) hx hb hts hinX1 hown hK hP 0 rfl rfl 4 (by decide) (hts (.fieldLink RX1 32 "PuzzleBook" "turn" "I") (by decide +kernel)) (fun _ h9 => h9) rfl dX1_readFromStore_19 ?_
  refine lv_iconst (v := nI 1) hx hb dX1_readFromStore_22 (by decide +kernel) ?_
  refine jb_eq (tgt := 36) hx hb (nI_toInt (n := L.1 0) (by omega)) (nI_toInt (n := 1) (by decide)) dX1_readFromStore_23 (by decide) (fun c2 => ?_) (fun c2 => ?_)
  · skip
    have t9 : t12 L.1 := by unfold t12; omega
    rw [rfE_t t9, rfC_t t9]
    refine lv_aload_n hx hb dX1_readFromStore_36 rfl (lv_at hl 0 rfl) ?_
    refine lv_aload_n hx hb dX1_readFromStore_37 rfl (lv_at hl 0 rfl) ?_
    refine va_get (D := D) (ci := 2) (v := .int (nI (L.1 0))) (C := RX1) (T := TX1) (N := 7) hx hb hts hinX1 hown hK hP 0 rfl rfl 4 (by decide) (hts (.fieldLink RX1 32 "PuzzleBook" "turn" "I") (by decide +kernel)) (fun _ h9 => h9) rfl dX1_readFromStore_38 ?_
    refine wr_Vi (wr := []) (wo := (bW b0 b1 b2 a0 a1 a2 a3 cB cI n L fd fc op (L.1 0) (cpE L.1 (L.1 0) eb (rdN L.1 (L.1 0) n)) (rdN L.1 (L.1 0) n))) (As := [.int (nI (L.1 0))]) (rest := []) ⟨hx, hb, hml, hown, hts⟩ (c_X1_readRootBlock l D b0 b1 b2 a0 a1 a2 a3 cB cI n L fd fc op (L.1 0) eb 0 (L.1 0) H.size  hn0 hn hg rfl (by omega)) (cwV 1 hts gX1_readFromStore_X1_readRootBlock rfl rfl rfl (by decide +kernel) ⟨Nat.le_of_ble_eq_true rfl, Nat.le_of_ble_eq_true rfl⟩) hK hP hD hS hA [0, 1, 2, 3, 4, 5, 6] [] rfl rfl rfl rfl (by decide) [0, 1, 2, 3, 4, 5, 6] rfl rfl (ci := 2) rfl rfl (q0 := 0) rfl rfl hl.1 rfl (Nat.le_of_ble_eq_true rfl) dX1_readFromStore_41 ⟨Nat.zero_le _, Nat.zero_le _⟩ (fun H locs hP hD hS => ?_)
    by_cases q3 : (rdO L.1 (L.1 0) n)
    · skip
      refine lv_as (y := nI 1) (congrArg nI (b01_t q3)) ?_
      refine j0_ne (tgt := 52) hx hb (nI_toInt (n := 1) (by decide)) dX1_readFromStore_44 (by decide) (fun c4 => ?_) (fun c4 => absurd c4 (by omega))
      refine lv_aload_n hx hb dX1_readFromStore_52 rfl (lv_at hl 0 rfl) ?_
      refine rd_V (As := []) (rest := []) ⟨hx, hb, hml, hown, hts⟩ (c_X1_leastWrongEntryBlock l D b0 b1 b2 a0 a1 a2 a3 cB cI n L fd fc op (L.1 0) (cpE L.1 (L.1 0) eb (rdN L.1 (L.1 0) n)) (rdN L.1 (L.1 0) n)  hn hg rdN_le (rdN_n (by omega))) (cwV 0 hts gX1_readFromStore_X1_leastWrongEntryBlock rfl rfl rfl (by decide +kernel) ⟨Nat.le_of_ble_eq_true rfl, Nat.le_of_ble_eq_true rfl⟩) hK hP [0, 1, 2, 3, 4, 5, 6] rfl (ci := 2) rfl rfl (q0 := 0) rfl rfl hl.1 rfl (Nat.le_of_ble_eq_true rfl) dX1_readFromStore_53 ⟨Nat.zero_le _, Nat.zero_le _⟩ (fun r5 hr5 => ?_)
      subst hr5
      exact rt_wi hx hb hr hlocks hP hD hS dX1_readFromStore_56 (rfR_tt t9 q3).symm
    · skip
      refine lv_as (y := nI 0) (congrArg nI (b01_f q3)) ?_
      refine j0_ne (tgt := 52) hx hb (nI_toInt (n := 0) (by decide)) dX1_readFromStore_44 (by decide) (fun c6 => absurd c6 (by omega)) (fun c6 => ?_)
      refine lv_aload_n hx hb dX1_readFromStore_47 rfl (lv_at hl 0 rfl) ?_
      refine va_get (D := D) (ci := 2) (v := .int (nI (L.1 0))) (C := RX1) (T := TX1) (N := 7) hx hb hts hinX1 hown hK hP 0 rfl rfl 4 (by decide) (hts (.fieldLink RX1 32 "PuzzleBook" "turn" "I") (by decide +kernel)) (fun _ h9 => h9) rfl dX1_readFromStore_48 ?_
      exact rt_wi hx hb hr hlocks hP hD hS dX1_readFromStore_51 (rfR_tf t9 q3).symm
  · skip
    refine lv_aload_n hx hb dX1_readFromStore_26 rfl (lv_at hl 0 rfl) ?_
    refine va_get (D := D) (ci := 2) (v := .int (nI (L.1 0))) (C := RX1) (T := TX1) (N := 7) hx hb hts hinX1 hown hK hP 0 rfl rfl 4 (by decide) (hts (.fieldLink RX1 32 "PuzzleBook" "turn" "I") (by decide +kernel)) (fun _ h9 => h9) rfl dX1_readFromStore_27 ?_
    refine lv_iconst (v := nI 2) hx hb dX1_readFromStore_30 (by decide +kernel) ?_
    refine jb_eq (tgt := 36) hx hb (nI_toInt (n := L.1 0) (by omega)) (nI_toInt (n := 2) (by decide)) dX1_readFromStore_31 (by decide) (fun c7 => ?_) (fun c7 => ?_)
    · skip
      have t9 : t12 L.1 := by unfold t12; omega
      rw [rfE_t t9, rfC_t t9]
      refine lv_aload_n hx hb dX1_readFromStore_36 rfl (lv_at hl 0 rfl) ?_
      refine lv_aload_n hx hb dX1_readFromStore_37 rfl (lv_at hl 0 rfl) ?_
      refine va_get (D := D) (ci := 2) (v := .int (nI (L.1 0))) (C := RX1) (T := TX1) (N := 7) hx hb hts hinX1 hown hK hP 0 rfl rfl 4 (by decide) (hts (.fieldLink RX1 32 "PuzzleBook" "turn" "I") (by decide +kernel)) (fun _ h9 => h9) rfl dX1_readFromStore_38 ?_
      refine wr_Vi (wr := []) (wo := (bW b0 b1 b2 a0 a1 a2 a3 cB cI n L fd fc op (L.1 0) (cpE L.1 (L.1 0) eb (rdN L.1 (L.1 0) n)) (rdN L.1 (L.1 0) n))) (As := [.int (nI (L.1 0))]) (rest := []) ⟨hx, hb, hml, hown, hts⟩ (c_X1_readRootBlock l D b0 b1 b2 a0 a1 a2 a3 cB cI n L fd fc op (L.1 0) eb 0 (L.1 0) H.size  hn0 hn hg rfl (by omega)) (cwV 1 hts gX1_readFromStore_X1_readRootBlock rfl rfl rfl (by decide +kernel) ⟨Nat.le_of_ble_eq_true rfl, Nat.le_of_ble_eq_true rfl⟩) hK hP hD hS hA [0, 1, 2, 3, 4, 5, 6] [] rfl rfl rfl rfl (by decide) [0, 1, 2, 3, 4, 5, 6] rfl rfl (ci := 2) rfl rfl (q0 := 0) rfl rfl hl.1 rfl (Nat.le_of_ble_eq_true rfl) dX1_readFromStore_41 ⟨Nat.zero_le _, Nat.zero_le _⟩ (fun H locs hP hD hS => ?_)
      by_cases q8 : (rdO L.1 (L.1 0) n)
      · skip
        refine lv_as (y := nI 1) (congrArg nI (b01_t q8)) ?_
        refine j0_ne (tgt := 52) hx hb (nI_toInt (n := 1) (by decide)) dX1_readFromStore_44 (by decide) (fun c9 => ?_) (fun c9 => absurd c9 (by omega))
        refine lv_aload_n hx hb dX1_readFromStore_52 rfl (lv_at hl 0 rfl) ?_
        refine rd_V (As := []) (rest := []) ⟨hx, hb, hml, hown, hts⟩ (c_X1_leastWrongEntryBlock l D b0 b1 b2 a0 a1 a2 a3 cB cI n L fd fc op (L.1 0) (cpE L.1 (L.1 0) eb (rdN L.1 (L.1 0) n)) (rdN L.1 (L.1 0) n)  hn hg rdN_le (rdN_n (by omega))) (cwV 0 hts gX1_readFromStore_X1_leastWrongEntryBlock rfl rfl rfl (by decide +kernel) ⟨Nat.le_of_ble_eq_true rfl, Nat.le_of_ble_eq_true rfl⟩) hK hP [0, 1, 2, 3, 4, 5, 6] rfl (ci := 2) rfl rfl (q0 := 0) rfl rfl hl.1 rfl (Nat.le_of_ble_eq_true rfl) dX1_readFromStore_53 ⟨Nat.zero_le _, Nat.zero_le _⟩ (fun r10 hr10 => ?_)
        subst hr10
        exact rt_wi hx hb hr hlocks hP hD hS dX1_readFromStore_56 (rfR_tt t9 q8).symm
      · skip
        refine lv_as (y := nI 0) (congrArg nI (b01_f q8)) ?_
        refine j0_ne (tgt := 52) hx hb (nI_toInt (n := 0) (by decide)) dX1_readFromStore_44 (by decide) (fun c11 => absurd c11 (by omega)) (fun c11 => ?_)
        refine lv_aload_n hx hb dX1_readFromStore_47 rfl (lv_at hl 0 rfl) ?_
        refine va_get (D := D) (ci := 2) (v := .int (nI (L.1 0))) (C := RX1) (T := TX1) (N := 7) hx hb hts hinX1 hown hK hP 0 rfl rfl 4 (by decide) (hts (.fieldLink RX1 32 "PuzzleBook" "turn" "I") (by decide +kernel)) (fun _ h9 => h9) rfl dX1_readFromStore_48 ?_
        exact rt_wi hx hb hr hlocks hP hD hS dX1_readFromStore_51 (rfR_tf t9 q8).symm
    · skip
      have t9 : ¬ t12 L.1 := by unfold t12; omega
      rw [rfE_f t9, rfC_f t9]
      refine lv_iconst (v := nI 0) hx hb dX1_readFromStore_34 (by decide +kernel) ?_
      exact rt_wi hx hb hr hlocks hP hD hS dX1_readFromStore_35 (rfR_f t9).symm
set_option maxRecDepth 100000 in
set_option maxHeartbeats 4000000 in
/-- feed(b) -/
theorem c_X1_feed (l : Launch) (D : va_G) (b0 b1 b2 a0 a1 a2 a3 : Nat) (cB cI : ClassId) (n : Nat) (L : Lg) (fd : Nat → Nat) (fc : Nat) (op : Nat) (tn : Nat) (eb : Nat → Nat) (ec : Nat) (bv : Int32) (bz : Int) (sz : Nat) (hf : fc ≤ 48) (h1 : bv.toInt = bz) : Met l yX1_feed wsX1_feed ({ frames := 0, cells := 0, slots := 0, locals := 0 }) (wP [.ref b0, .int bv] D (bW b0 b1 b2 a0 a1 a2 a3 cB cI n L fd fc op tn eb ec) (ty2 cB cI) sz) (wQi ((fedF fd fc bz).2.2) D (bW b0 b1 b2 a0 a1 a2 a3 cB cI n L ((fedF fd fc bz).1) ((fedF fd fc bz).2.1) op tn eb ec) (va_A (bW b0 b1 b2 a0 a1 a2 a3 cB cI n L fd fc op tn eb ec) sz)) 0 0 (va_A (bW b0 b1 b2 a0 a1 a2 a3 cB cI n L fd fc op tn eb ec) sz) := by
  refine met_wi (by decide) rfl (Nat.le_of_ble_eq_true rfl) ?_
  intro p e s m below meth c hx hb hml hr hlocks hown hts hP hK A hD hA hS ls hl
  have hown : s.vm.findClass RX1 = some m.cls := hown
  have hinX1 : ∀ w ∈ u_ws RX1 TX1 7, w ∈ wsX1_feed := by decide +kernel
  have hl : lv_has ls 2 [(0, .ref b0), (1, .int bv)] := hl
  refine lv_iload_n hx hb dX1_feed_0 rfl (lv_at hl 1 rfl) ?_
  refine j0_lt (tgt := 30) hx hb h1 dX1_feed_1 (by decide) (fun c1 => ?_) (fun c1 => ?_)
  · skip
    have e9 : fedF fd fc bz = (fd, fc, nI 0) := if_neg (by omega)
    rw [e9]
    refine lv_iconst (v := nI 0) hx hb dX1_feed_30 (by decide +kernel) ?_
    exact rt_wz hx hb hr hlocks hP hD hS dX1_feed_31 (by decide +kernel) rfl
  · skip
    refine lv_iload_n hx hb dX1_feed_4 rfl (lv_at hl 1 rfl) ?_
    refine lv_sipush (v := nI 255) hx hb dX1_feed_5 (by decide +kernel) ?_
    refine jb_gt (tgt := 30) hx hb h1 (nI_toInt (n := 255) (by decide)) dX1_feed_8 (by decide) (fun c2 => ?_) (fun c2 => ?_)
    · skip
      have e9 : fedF fd fc bz = (fd, fc, nI 0) := if_neg (by omega)
      rw [e9]
      refine lv_iconst (v := nI 0) hx hb dX1_feed_30 (by decide +kernel) ?_
      exact rt_wz hx hb hr hlocks hP hD hS dX1_feed_31 (by decide +kernel) rfl
    · skip
      refine lv_aload_n hx hb dX1_feed_11 rfl (lv_at hl 0 rfl) ?_
      refine va_get (D := D) (ci := 2) (v := .int (nI fc)) (C := RX1) (T := TX1) (N := 7) hx hb hts hinX1 hown hK hP 0 rfl rfl 2 (by decide) (hts (.fieldLink RX1 13 "PuzzleBook" "fedCount" "I") (by decide +kernel)) (fun _ h9 => h9) rfl dX1_feed_12 ?_
      refine j0_lt (tgt := 30) hx hb (nI_toInt (n := fc) (by omega)) dX1_feed_15 (by decide) (fun c3 => absurd c3 (by omega)) (fun c3 => ?_)
      refine lv_aload_n hx hb dX1_feed_18 rfl (lv_at hl 0 rfl) ?_
      refine va_get (D := D) (ci := 2) (v := .int (nI fc)) (C := RX1) (T := TX1) (N := 7) hx hb hts hinX1 hown hK hP 0 rfl rfl 2 (by decide) (hts (.fieldLink RX1 13 "PuzzleBook" "fedCount" "I") (by decide +kernel)) (fun _ h9 => h9) rfl dX1_feed_19 ?_
      refine lv_aload_n hx hb dX1_feed_22 rfl (lv_at hl 0 rfl) ?_
      refine va_get (D := D) (ci := 2) (v := .ref b1) (C := RX1) (T := TX1) (N := 7) hx hb hts hinX1 hown hK hP 0 rfl rfl 1 (by decide) (hts (.fieldLink RX1 9 "PuzzleBook" "fedBytes" "[I") (by decide +kernel)) (fun _ h9 => h9) rfl dX1_feed_23 ?_
      refine al_i hx hb hK hP 1 1 rfl rfl dX1_feed_26 ?_
      refine jb_lt (tgt := 32) hx hb (nI_toInt (n := fc) (by omega)) (nI_toInt (n := 48) (by decide)) dX1_feed_27 (by decide) (fun c4 => ?_) (fun c4 => ?_)
      · skip
        obtain ⟨j, hj⟩ : ∃ j : Nat, bz = (j : Int) := ⟨bz.toNat, by omega⟩
        have hj2 : bv = nI j := Int32.toInt_inj.mp (by rw [h1, hj, nI_toInt (by omega)])
        have hj3 : bz.toNat = j := by omega
        have e9 : fedF fd fc bz = (va_up fd fc j, fc + 1, nI 1) := by rw [← hj3]; exact if_pos (by omega)
        rw [e9]
        refine lv_aload_n hx hb dX1_feed_32 rfl (lv_at hl 0 rfl) ?_
        refine va_get (D := D) (ci := 2) (v := .ref b1) (C := RX1) (T := TX1) (N := 7) hx hb hts hinX1 hown hK hP 0 rfl rfl 1 (by decide) (hts (.fieldLink RX1 9 "PuzzleBook" "fedBytes" "[I") (by decide +kernel)) (fun _ h9 => h9) rfl dX1_feed_33 ?_
        refine lv_aload_n hx hb dX1_feed_36 rfl (lv_at hl 0 rfl) ?_
        refine va_get (D := D) (ci := 2) (v := .int (nI fc)) (C := RX1) (T := TX1) (N := 7) hx hb hts hinX1 hown hK hP 0 rfl rfl 2 (by decide) (hts (.fieldLink RX1 13 "PuzzleBook" "fedCount" "I") (by decide +kernel)) (fun _ h9 => h9) rfl dX1_feed_37 ?_
        refine lv_iload_n hx hb dX1_feed_40 rfl (lv_at hl 1 rfl) ?_
        refine lv_as (y := nI j) hj2 ?_
        refine st_i (f := fd) (k := fc) (x := j) hx hb hK hP hD hS 1 1 rfl rfl (by omega) (by decide) dX1_feed_41 (fun H locs hP hD hS => ?_)
        have hP : va_P D vwCl (bW b0 b1 b2 a0 a1 a2 a3 cB cI n L (va_up fd fc j) fc op tn eb ec) H := hP
        have hD : va_D A (bW b0 b1 b2 a0 a1 a2 a3 cB cI n L (va_up fd fc j) fc op tn eb ec) := hD
        refine lv_aload_n hx hb dX1_feed_42 rfl (lv_at hl 0 rfl) ?_
        refine lv_dup hx hb dX1_feed_43 rfl ?_
        refine va_get (D := D) (ci := 2) (v := .int (nI fc)) (C := RX1) (T := TX1) (N := 7) hx hb hts hinX1 hown hK hP 0 rfl rfl 2 (by decide) (hts (.fieldLink RX1 13 "PuzzleBook" "fedCount" "I") (by decide +kernel)) (fun _ h9 => h9) rfl dX1_feed_44 ?_
        refine lv_iconst (v := nI 1) hx hb dX1_feed_47 (by decide +kernel) ?_
        refine lv_iadd hx hb dX1_feed_48 ?_
        refine lv_as (y := nI (fc + 1)) (nI_add _ _) ?_
        refine va_put (D := D) (ci := 2) (v := .int (nI (fc + 1))) (ty := .int) (C := RX1) (T := TX1) (N := 7) hx hb hts hinX1 tyX1 tyX1_ok nmX1 hown hK hP hD hS 0 rfl rfl 2 (by decide) (hts (.fieldLink RX1 13 "PuzzleBook" "fedCount" "I") (by decide +kernel)) (fun _ h9 => h9) rfl (by decide +kernel) rfl rfl (Nat.le_of_ble_eq_true rfl) dX1_feed_49 (fun H locs hP hD hS => ?_)
        have hP : va_P D vwCl (bW b0 b1 b2 a0 a1 a2 a3 cB cI n L (va_up fd fc j) (fc + 1) op tn eb ec) H := hP
        have hD : va_D A (bW b0 b1 b2 a0 a1 a2 a3 cB cI n L (va_up fd fc j) (fc + 1) op tn eb ec) := hD
        refine lv_iconst (v := nI 1) hx hb dX1_feed_52 (by decide +kernel) ?_
        exact rt_wz hx hb hr hlocks hP hD hS dX1_feed_53 (by decide +kernel) rfl
      · skip
        have e9 : fedF fd fc bz = (fd, fc, nI 0) := if_neg (by omega)
        rw [e9]
        refine lv_iconst (v := nI 0) hx hb dX1_feed_30 (by decide +kernel) ?_
        exact rt_wz hx hb hr hlocks hP hD hS dX1_feed_31 (by decide +kernel) rfl
set_option maxRecDepth 100000 in
set_option maxHeartbeats 4000000 in
/-- put(name) -/
theorem c_X1_put (l : Launch) (D : va_G) (b0 b1 b2 a0 a1 a2 a3 : Nat) (cB cI : ClassId) (n : Nat) (L : Lg) (fd : Nat → Nat) (fc : Nat) (op : Nat) (tn : Nat) (eb : Nat → Nat) (ec : Nat) (nv : Int32) (nz : Int) (sz : Nat) (hn0 : 4 ≤ n) (hn : n ≤ 64) (hg : ∀ j, L.1 j < 256) (he : ec ≤ 40) (hE : ∀ k, bO eb ec k < n) (hf : fc ≤ 48) (hd : ∀ i, fd i < 256) (ho : op ≤ 1) (ht : op ≠ 0 → tn = 1 ∨ tn = 2) (h1 : nv.toInt = nz) : Met l yX1_put wsX1_put ({ frames := 6, cells := 0, slots := 0, locals := 134 }) (wP [.ref b0, .int nv] D (bW b0 b1 b2 a0 a1 a2 a3 cB cI n L fd fc op tn eb ec) (ty2 cB cI) sz) (wQi ((putF n L fd fc op tn eb ec nz).2.2.2.2.2) D (bW b0 b1 b2 a0 a1 a2 a3 cB cI n ((putF n L fd fc op tn eb ec nz).1) fd ((putF n L fd fc op tn eb ec nz).2.1) op ((putF n L fd fc op tn eb ec nz).2.2.1) ((putF n L fd fc op tn eb ec nz).2.2.2.1) ((putF n L fd fc op tn eb ec nz).2.2.2.2.1)) (va_A (bW b0 b1 b2 a0 a1 a2 a3 cB cI n L fd fc op tn eb ec) sz)) 0 0 (va_A (bW b0 b1 b2 a0 a1 a2 a3 cB cI n L fd fc op tn eb ec) sz) := by
  refine met_wi (by decide) rfl (Nat.le_of_ble_eq_true rfl) ?_
  intro p e s m below meth c hx hb hml hr hlocks hown hts hP hK A hD hA hS ls hl
  have hown : s.vm.findClass RX1 = some m.cls := hown
  have hinX1 : ∀ w ∈ u_ws RX1 TX1 7, w ∈ wsX1_put := by decide +kernel
  have hinX0 : ∀ w ∈ u_ws RX0 TX0 5, w ∈ wsX1_put := by decide +kernel
  have hl : lv_has ls 4 [(0, .ref b0), (1, .int nv)] := hl
  refine lv_aload_n hx hb dX1_put_0 rfl (lv_at hl 0 rfl) ?_
  refine va_get (D := D) (ci := 2) (v := .int (nI op)) (C := RX1) (T := TX1) (N := 7) hx hb hts hinX1 hown hK hP 0 rfl rfl 3 (by decide) (hts (.fieldLink RX1 45 "PuzzleBook" "isOpen" "Z") (by decide +kernel)) (fun _ h9 => h9) rfl dX1_put_1 ?_
  refine j0_eq (tgt := 24) hx hb (nI_toInt (n := op) (by omega)) dX1_put_4 (by decide) (fun c1 => ?_) (fun c1 => ?_)
  · skip
    have e9 : putF n L fd fc op tn eb ec nz = (L, fc, tn, eb, ec, -1) := if_neg (by omega)
    rw [e9]
    refine lv_iconst (v := -1) hx hb dX1_put_24 (by decide +kernel) ?_
    exact rt_wi hx hb hr hlocks hP hD hS dX1_put_25 rfl
  · skip
    refine lv_iload_n hx hb dX1_put_7 rfl (lv_at hl 1 rfl) ?_
    refine j0_lt (tgt := 24) hx hb h1 dX1_put_8 (by decide) (fun c2 => ?_) (fun c2 => ?_)
    · skip
      have e9 : putF n L fd fc op tn eb ec nz = (L, fc, tn, eb, ec, -1) := if_neg (by omega)
      rw [e9]
      refine lv_iconst (v := -1) hx hb dX1_put_24 (by decide +kernel) ?_
      exact rt_wi hx hb hr hlocks hP hD hS dX1_put_25 rfl
    · skip
      refine lv_iload_n hx hb dX1_put_11 rfl (lv_at hl 1 rfl) ?_
      refine lv_ldc (v := (65535)) hx hb hown (hts (.constant RX1 49 (65535)) (by decide +kernel)) dX1_put_12 ?_
      refine lv_as (y := nI 65535) (by decide +kernel) ?_
      refine jb_gt (tgt := 24) hx hb h1 (nI_toInt (n := 65535) (by decide)) dX1_put_14 (by decide) (fun c3 => ?_) (fun c3 => ?_)
      · skip
        have e9 : putF n L fd fc op tn eb ec nz = (L, fc, tn, eb, ec, -1) := if_neg (by omega)
        rw [e9]
        refine lv_iconst (v := -1) hx hb dX1_put_24 (by decide +kernel) ?_
        exact rt_wi hx hb hr hlocks hP hD hS dX1_put_25 rfl
      · skip
        refine lv_aload_n hx hb dX1_put_17 rfl (lv_at hl 0 rfl) ?_
        refine va_get (D := D) (ci := 2) (v := .int (nI fc)) (C := RX1) (T := TX1) (N := 7) hx hb hts hinX1 hown hK hP 0 rfl rfl 2 (by decide) (hts (.fieldLink RX1 13 "PuzzleBook" "fedCount" "I") (by decide +kernel)) (fun _ h9 => h9) rfl dX1_put_18 ?_
        refine j0_ne (tgt := 26) hx hb (nI_toInt (n := fc) (by omega)) dX1_put_21 (by decide) (fun c4 => ?_) (fun c4 => ?_)
        · skip
          have hA1 : op ≠ 0 ∧ 0 ≤ nz ∧ nz ≤ 65535 ∧ fc ≠ 0 := by omega
          obtain ⟨nm, hj⟩ : ∃ j : Nat, nz = (j : Int) := ⟨nz.toNat, by omega⟩
          have hj2 : nv = nI nm := Int32.toInt_inj.mp (by rw [h1, hj, nI_toInt (by omega)])
          have hj3 : nz.toNat = nm := by omega
          refine lv_aload_n hx hb dX1_put_26 rfl (lv_at hl 0 rfl) ?_
          refine rd_V (As := []) (rest := []) ⟨hx, hb, hml, hown, hts⟩ (c_X1_firstEntryWithFedRow l D b0 b1 b2 a0 a1 a2 a3 cB cI n L fd fc op tn eb ec  hn hg he hE hf hd) (cwV 0 hts gX1_put_X1_firstEntryWithFedRow rfl rfl rfl (by decide +kernel) ⟨Nat.le_of_ble_eq_true rfl, Nat.le_of_ble_eq_true rfl⟩) hK hP [0, 1, 2, 3, 4, 5, 6] rfl (ci := 2) rfl rfl (q0 := 0) rfl rfl hl.1 rfl (Nat.le_of_ble_eq_true rfl) dX1_put_27 ⟨Nat.zero_le _, Nat.zero_le _⟩ (fun r5 hr5 => ?_)
          subst hr5
          by_cases q1 : fN (fun k => hF L.1 (bO eb ec k) fd fc) ec < ec
          · skip
            refine lv_as (y := nI (fN (fun k => hF L.1 (bO eb ec k) fd fc) ec)) (by unfold fI; rw [if_pos q1]) ?_
            have e9 : putF n L fd fc op tn eb ec nz = (L, 0, tn, eb, ec, nI (fN (fun k => hF L.1 (bO eb ec k) fd fc) ec)) := (if_pos hA1).trans (if_pos q1)
            rw [e9]
            refine lv_istore_n (lv' := [(2, .int (nI (fN (fun k => hF L.1 (bO eb ec k) fd fc) ec))), (0, .ref b0), (1, .int nv)]) hx hb dX1_put_30 rfl hl (by decide) rfl (fun ls hl => ?_)
            refine lv_iload_n hx hb dX1_put_31 rfl (lv_at hl 0 rfl) ?_
            refine lv_iconst (v := -1) hx hb dX1_put_32 (by decide +kernel) ?_
            refine jb_eq (tgt := 43) hx hb (nI_toInt (n := fN (fun k => hF L.1 (bO eb ec k) fd fc) ec) (by omega)) neg1_toInt dX1_put_33 (by decide) (fun c6 => absurd c6 (by omega)) (fun c6 => ?_)
            refine lv_aload_n hx hb dX1_put_36 rfl (lv_at hl 1 rfl) ?_
            refine lv_iconst (v := nI 0) hx hb dX1_put_37 (by decide +kernel) ?_
            refine va_put (D := D) (ci := 2) (v := .int (nI 0)) (ty := .int) (C := RX1) (T := TX1) (N := 7) hx hb hts hinX1 tyX1 tyX1_ok nmX1 hown hK hP hD hS 0 rfl rfl 2 (by decide) (hts (.fieldLink RX1 13 "PuzzleBook" "fedCount" "I") (by decide +kernel)) (fun _ h9 => h9) rfl (by decide +kernel) rfl rfl (Nat.le_of_ble_eq_true rfl) dX1_put_38 (fun H locs hP hD hS => ?_)
            have hP : va_P D vwCl (bW b0 b1 b2 a0 a1 a2 a3 cB cI n L fd 0 op tn eb ec) H := hP
            have hD : va_D A (bW b0 b1 b2 a0 a1 a2 a3 cB cI n L fd 0 op tn eb ec) := hD
            refine lv_iload_n hx hb dX1_put_41 rfl (lv_at hl 0 rfl) ?_
            exact rt_wi hx hb hr hlocks hP hD hS dX1_put_42 rfl
          · skip
            refine lv_as (y := (-1)) (by unfold fI; rw [if_neg q1]) ?_
            refine lv_istore_n (lv' := [(2, .int (-1)), (0, .ref b0), (1, .int nv)]) hx hb dX1_put_30 rfl hl (by decide) rfl (fun ls hl => ?_)
            refine lv_iload_n hx hb dX1_put_31 rfl (lv_at hl 0 rfl) ?_
            refine lv_iconst (v := -1) hx hb dX1_put_32 (by decide +kernel) ?_
            refine jb_eq (tgt := 43) hx hb neg1_toInt neg1_toInt dX1_put_33 (by decide) (fun c7 => ?_) (fun c7 => absurd c7 (by omega))
            refine lv_aload_n hx hb dX1_put_43 rfl (lv_at hl 1 rfl) ?_
            refine rd_V (As := []) (rest := []) ⟨hx, hb, hml, hown, hts⟩ (c_X1_leastFreeBlock l D b0 b1 b2 a0 a1 a2 a3 cB cI n L fd fc op tn eb ec  hn0 hn he hE) (cwV 0 hts gX1_put_X1_leastFreeBlock rfl rfl rfl (by decide +kernel) ⟨Nat.le_of_ble_eq_true rfl, Nat.le_of_ble_eq_true rfl⟩) hK hP [0, 1, 2, 3, 4, 5, 6] rfl (ci := 2) rfl rfl (q0 := 0) rfl rfl hl.1 rfl (Nat.le_of_ble_eq_true rfl) dX1_put_44 ⟨Nat.zero_le _, Nat.zero_le _⟩ (fun r8 hr8 => ?_)
            subst hr8
            by_cases q2 : (lfB (bO eb ec) ec n) < n
            · skip
              refine lv_as (y := nI (lfB (bO eb ec) ec n)) (if_pos q2) ?_
              refine lv_istore_n (lv' := [(3, .int (nI (lfB (bO eb ec) ec n))), (2, .int (-1)), (0, .ref b0), (1, .int nv)]) hx hb dX1_put_47 rfl hl (by decide) rfl (fun ls hl => ?_)
              refine lv_iload_n hx hb dX1_put_48 rfl (lv_at hl 0 rfl) ?_
              refine lv_iconst (v := -1) hx hb dX1_put_49 (by decide +kernel) ?_
              refine jb_eq (tgt := 62) hx hb (nI_toInt (n := (lfB (bO eb ec) ec n)) (by omega)) neg1_toInt dX1_put_50 (by decide) (fun c9 => absurd c9 (by omega)) (fun c9 => ?_)
              refine lv_aload_n hx hb dX1_put_53 rfl (lv_at hl 2 rfl) ?_
              refine va_get (D := D) (ci := 2) (v := .int (nI ec)) (C := RX1) (T := TX1) (N := 7) hx hb hts hinX1 hown hK hP 0 rfl rfl 6 (by decide) (hts (.fieldLink RX1 20 "PuzzleBook" "entryCount" "I") (by decide +kernel)) (fun _ h9 => h9) rfl dX1_put_54 ?_
              refine lv_bipush (v := nI 40) hx hb dX1_put_57 (by decide +kernel) ?_
              refine jb_lt (tgt := 64) hx hb (nI_toInt (n := ec) (by omega)) (nI_toInt (n := 40) (by decide)) dX1_put_59 (by decide) (fun c10 => ?_) (fun c10 => ?_)
              · skip
                have t9 := ht (by omega)
                have e9 : putF n L fd fc op tn eb ec nz = (w1 (wR (wE (w0 L) (lfB (bO eb ec) ec n) nm fc fd) (3 - tn) (ec + 1) (bO (va_up eb ec (lfB (bO eb ec) ec n)) (ec + 1))) (64 * 0 + 0) (3 - tn), 0, 3 - tn, va_up eb ec (lfB (bO eb ec) ec n), ec + 1, nI ec) := by rw [← hj3]; exact (if_pos hA1).trans ((if_neg q1).trans (if_pos (by omega)))
                rw [e9]
                refine lv_aload_n hx hb dX1_put_64 rfl (lv_at hl 2 rfl) ?_
                refine va_get (D := D) (ci := 2) (v := .ref a0) (C := RX1) (T := TX1) (N := 7) hx hb hts hinX1 hown hK hP 0 rfl rfl 0 (by decide) (hts (.fieldLink RX1 28 "PuzzleBook" "store" "LPuzzleBook$Store;") (by decide +kernel)) (fun _ h9 => h9) rfl dX1_put_65 ?_
                refine wr_V (wr := [(b0, .inr (2, [.ref a0, .ref b1, .int (nI fc), .int (nI op), .int (nI tn), .ref b2, .int (nI ec)])), (b1, .inl (cI, 48, .inl (aI fd))), (b2, .inl (cI, 40, .inl (aI eb)))]) (wo := (bW b0 b1 b2 a0 a1 a2 a3 cB cI n (w0 L) fd fc op tn eb ec)) (As := []) (rest := []) ⟨hx, hb, hml, hown, hts⟩ (c_X0_beginChange l D a0 a1 a2 a3 cB cI n L  s.heap.size  ) (cwV 0 hts gX1_put_X0_beginChange rfl rfl rfl (by decide +kernel) ⟨Nat.le_of_ble_eq_true rfl, Nat.le_of_ble_eq_true rfl⟩) hK hP hD hS hA [3, 4, 5, 6] [0, 1, 2] rfl rfl rfl rfl (by decide) [0, 1, 2, 3, 4, 5, 6] rfl rfl (ci := 1) rfl rfl (q0 := 3) rfl rfl hl.1 rfl (Nat.le_of_ble_eq_true rfl) dX1_put_68 ⟨Nat.zero_le _, Nat.zero_le _⟩ (fun H locs hP hD hS => ?_)
                refine lv_aload_n hx hb dX1_put_71 rfl (lv_at hl 2 rfl) ?_
                refine lv_iload_n hx hb dX1_put_72 rfl (lv_at hl 0 rfl) ?_
                refine lv_iload_n hx hb dX1_put_73 rfl (lv_at hl 3 rfl) ?_
                refine lv_as (y := nI nm) hj2 ?_
                refine wr_V (wr := []) (wo := (bW b0 b1 b2 a0 a1 a2 a3 cB cI n (wE (w0 L) (lfB (bO eb ec) ec n) nm fc fd) fd fc op tn eb ec)) (As := [.int (nI (lfB (bO eb ec) ec n)), .int (nI nm)]) (rest := []) ⟨hx, hb, hml, hown, hts⟩ (c_X1_writeEntryBlock l D b0 b1 b2 a0 a1 a2 a3 cB cI n (w0 L) fd fc op tn eb ec (lfB (bO eb ec) ec n) nm H.size  hn hg q2 (by omega) hf hd (by show 0 + 64 ≤ 129; omega)) (cwV 2 hts gX1_put_X1_writeEntryBlock rfl rfl rfl (by decide +kernel) ⟨Nat.le_of_ble_eq_true rfl, Nat.le_of_ble_eq_true rfl⟩) hK hP hD hS hA [0, 1, 2, 3, 4, 5, 6] [] rfl rfl rfl rfl (by decide) [0, 1, 2, 3, 4, 5, 6] rfl rfl (ci := 2) rfl rfl (q0 := 0) rfl rfl hl.1 rfl (Nat.le_of_ble_eq_true rfl) dX1_put_74 ⟨Nat.zero_le _, Nat.zero_le _⟩ (fun H locs hP hD hS => ?_)
                refine lv_aload_n hx hb dX1_put_77 rfl (lv_at hl 2 rfl) ?_
                refine lv_iload_n hx hb dX1_put_78 rfl (lv_at hl 0 rfl) ?_
                refine wr_V (wr := []) (wo := (bW b0 b1 b2 a0 a1 a2 a3 cB cI n (wE (w0 L) (lfB (bO eb ec) ec n) nm fc fd) fd fc op tn (va_up eb ec (lfB (bO eb ec) ec n)) (ec + 1))) (As := [.int (nI (lfB (bO eb ec) ec n))]) (rest := []) ⟨hx, hb, hml, hown, hts⟩ (c_X1_addEntryBlock l D b0 b1 b2 a0 a1 a2 a3 cB cI n (wE (w0 L) (lfB (bO eb ec) ec n) nm fc fd) fd fc op tn eb ec (lfB (bO eb ec) ec n) H.size  (by omega)) (cwV 1 hts gX1_put_X1_addEntryBlock rfl rfl rfl (by decide +kernel) ⟨Nat.le_of_ble_eq_true rfl, Nat.le_of_ble_eq_true rfl⟩) hK hP hD hS hA [0, 1, 2, 3, 4, 5, 6] [] rfl rfl rfl rfl (by decide) [0, 1, 2, 3, 4, 5, 6] rfl rfl (ci := 2) rfl rfl (q0 := 0) rfl rfl hl.1 rfl (Nat.le_of_ble_eq_true rfl) dX1_put_79 ⟨Nat.zero_le _, Nat.zero_le _⟩ (fun H locs hP hD hS => ?_)
                refine lv_aload_n hx hb dX1_put_82 rfl (lv_at hl 2 rfl) ?_
                refine wr_V (wr := []) (wo := (bW b0 b1 b2 a0 a1 a2 a3 cB cI n (w1 (wR (wE (w0 L) (lfB (bO eb ec) ec n) nm fc fd) (3 - tn) (ec + 1) (bO (va_up eb ec (lfB (bO eb ec) ec n)) (ec + 1))) (64 * 0 + 0) (3 - tn)) fd fc op (3 - tn) (va_up eb ec (lfB (bO eb ec) ec n)) (ec + 1))) (As := []) (rest := []) ⟨hx, hb, hml, hown, hts⟩ (c_X1_writeOtherRootAndTurn l D b0 b1 b2 a0 a1 a2 a3 cB cI n (wE (w0 L) (lfB (bO eb ec) ec n) nm fc fd) fd fc op tn (va_up eb ec (lfB (bO eb ec) ec n)) (ec + 1)  H.size  hn0 hn (wE_lt hg (by omega) hf hd) (by omega) (bO_add hE q2) t9 (by rw [wE_c]; show 0 + 64 + 65 ≤ 129; omega)) (cwV 0 hts gX1_put_X1_writeOtherRootAndTurn rfl rfl rfl (by decide +kernel) ⟨Nat.le_of_ble_eq_true rfl, Nat.le_of_ble_eq_true rfl⟩) hK hP hD hS hA [0, 1, 2, 3, 4, 5, 6] [] rfl rfl rfl rfl (by decide) [0, 1, 2, 3, 4, 5, 6] rfl rfl (ci := 2) rfl rfl (q0 := 0) rfl rfl hl.1 rfl (Nat.le_of_ble_eq_true rfl) dX1_put_83 ⟨Nat.zero_le _, Nat.zero_le _⟩ (fun H locs hP hD hS => ?_)
                refine lv_aload_n hx hb dX1_put_86 rfl (lv_at hl 2 rfl) ?_
                refine lv_iconst (v := nI 0) hx hb dX1_put_87 (by decide +kernel) ?_
                refine va_put (D := D) (ci := 2) (v := .int (nI 0)) (ty := .int) (C := RX1) (T := TX1) (N := 7) hx hb hts hinX1 tyX1 tyX1_ok nmX1 hown hK hP hD hS 0 rfl rfl 2 (by decide) (hts (.fieldLink RX1 13 "PuzzleBook" "fedCount" "I") (by decide +kernel)) (fun _ h9 => h9) rfl (by decide +kernel) rfl rfl (Nat.le_of_ble_eq_true rfl) dX1_put_88 (fun H locs hP hD hS => ?_)
                have hP : va_P D vwCl (bW b0 b1 b2 a0 a1 a2 a3 cB cI n (w1 (wR (wE (w0 L) (lfB (bO eb ec) ec n) nm fc fd) (3 - tn) (ec + 1) (bO (va_up eb ec (lfB (bO eb ec) ec n)) (ec + 1))) (64 * 0 + 0) (3 - tn)) fd 0 op (3 - tn) (va_up eb ec (lfB (bO eb ec) ec n)) (ec + 1)) H := hP
                have hD : va_D A (bW b0 b1 b2 a0 a1 a2 a3 cB cI n (w1 (wR (wE (w0 L) (lfB (bO eb ec) ec n) nm fc fd) (3 - tn) (ec + 1) (bO (va_up eb ec (lfB (bO eb ec) ec n)) (ec + 1))) (64 * 0 + 0) (3 - tn)) fd 0 op (3 - tn) (va_up eb ec (lfB (bO eb ec) ec n)) (ec + 1)) := hD
                refine lv_aload_n hx hb dX1_put_91 rfl (lv_at hl 2 rfl) ?_
                refine va_get (D := D) (ci := 2) (v := .int (nI (ec + 1))) (C := RX1) (T := TX1) (N := 7) hx hb hts hinX1 hown hK hP 0 rfl rfl 6 (by decide) (hts (.fieldLink RX1 20 "PuzzleBook" "entryCount" "I") (by decide +kernel)) (fun _ h9 => h9) rfl dX1_put_92 ?_
                refine lv_iconst (v := nI 1) hx hb dX1_put_95 (by decide +kernel) ?_
                refine lv_isub hx hb dX1_put_96 ?_
                refine lv_as (y := nI ((ec + 1) - 1)) (pk_sub (by omega)) ?_
                exact rt_wi hx hb hr hlocks hP hD hS dX1_put_97 (congrArg nI (by omega))
              · skip
                have e9 : putF n L fd fc op tn eb ec nz = (L, fc, tn, eb, ec, -1) := (if_pos hA1).trans ((if_neg q1).trans (if_neg (by omega)))
                rw [e9]
                refine lv_iconst (v := -1) hx hb dX1_put_62 (by decide +kernel) ?_
                exact rt_wi hx hb hr hlocks hP hD hS dX1_put_63 rfl
            · skip
              refine lv_as (y := (-1)) (if_neg q2) ?_
              refine lv_istore_n (lv' := [(3, .int (-1)), (2, .int (-1)), (0, .ref b0), (1, .int nv)]) hx hb dX1_put_47 rfl hl (by decide) rfl (fun ls hl => ?_)
              refine lv_iload_n hx hb dX1_put_48 rfl (lv_at hl 0 rfl) ?_
              refine lv_iconst (v := -1) hx hb dX1_put_49 (by decide +kernel) ?_
              refine jb_eq (tgt := 62) hx hb neg1_toInt neg1_toInt dX1_put_50 (by decide) (fun c11 => ?_) (fun c11 => absurd c11 (by omega))
              have e9 : putF n L fd fc op tn eb ec nz = (L, fc, tn, eb, ec, -1) := (if_pos hA1).trans ((if_neg q1).trans (if_neg (fun h => q2 h.1)))
              rw [e9]
              refine lv_iconst (v := -1) hx hb dX1_put_62 (by decide +kernel) ?_
              exact rt_wi hx hb hr hlocks hP hD hS dX1_put_63 rfl
        · skip
          have e9 : putF n L fd fc op tn eb ec nz = (L, fc, tn, eb, ec, -1) := if_neg (by omega)
          rw [e9]
          refine lv_iconst (v := -1) hx hb dX1_put_24 (by decide +kernel) ?_
          exact rt_wi hx hb hr hlocks hP hD hS dX1_put_25 rfl
set_option maxRecDepth 100000 in
set_option maxHeartbeats 4000000 in
/-- drop(entry) -/
theorem c_X1_drop (l : Launch) (D : va_G) (b0 b1 b2 a0 a1 a2 a3 : Nat) (cB cI : ClassId) (n : Nat) (L : Lg) (fd : Nat → Nat) (fc : Nat) (op : Nat) (tn : Nat) (eb : Nat → Nat) (ec : Nat) (kv : Int32) (kz : Int) (sz : Nat) (hn0 : 4 ≤ n) (hn : n ≤ 64) (hg : ∀ j, L.1 j < 256) (he : ec ≤ 40) (hE : ∀ k, bO eb ec k < n) (ho : op ≤ 1) (ht : op ≠ 0 → tn = 1 ∨ tn = 2) (h1 : kv.toInt = kz) : Met l yX1_drop wsX1_drop ({ frames := 6, cells := 0, slots := 0, locals := 134 }) (wP [.ref b0, .int kv] D (bW b0 b1 b2 a0 a1 a2 a3 cB cI n L fd fc op tn eb ec) (ty2 cB cI) sz) (wQi ((dropF L op tn eb ec kz).2.2.2.2) D (bW b0 b1 b2 a0 a1 a2 a3 cB cI n ((dropF L op tn eb ec kz).1) fd fc op ((dropF L op tn eb ec kz).2.1) ((dropF L op tn eb ec kz).2.2.1) ((dropF L op tn eb ec kz).2.2.2.1)) (va_A (bW b0 b1 b2 a0 a1 a2 a3 cB cI n L fd fc op tn eb ec) sz)) 0 0 (va_A (bW b0 b1 b2 a0 a1 a2 a3 cB cI n L fd fc op tn eb ec) sz) := by
  refine met_wi (by decide) rfl (Nat.le_of_ble_eq_true rfl) ?_
  intro p e s m below meth c hx hb hml hr hlocks hown hts hP hK A hD hA hS ls hl
  have hown : s.vm.findClass RX1 = some m.cls := hown
  have hinX1 : ∀ w ∈ u_ws RX1 TX1 7, w ∈ wsX1_drop := by decide +kernel
  have hinX0 : ∀ w ∈ u_ws RX0 TX0 5, w ∈ wsX1_drop := by decide +kernel
  have hl : lv_has ls 2 [(0, .ref b0), (1, .int kv)] := hl
  refine lv_aload_n hx hb dX1_drop_0 rfl (lv_at hl 0 rfl) ?_
  refine lv_iload_n hx hb dX1_drop_1 rfl (lv_at hl 1 rfl) ?_
  refine rd_V (As := [.int kv]) (rest := []) ⟨hx, hb, hml, hown, hts⟩ (c_X1_isEntry l D b0 b1 b2 a0 a1 a2 a3 cB cI n L fd fc op tn eb ec kv kz ho he h1) (cwV 1 hts gX1_drop_X1_isEntry rfl rfl rfl (by decide +kernel) ⟨Nat.le_of_ble_eq_true rfl, Nat.le_of_ble_eq_true rfl⟩) hK hP [0, 1, 2, 3, 4, 5, 6] rfl (ci := 2) rfl rfl (q0 := 0) rfl rfl hl.1 rfl (Nat.le_of_ble_eq_true rfl) dX1_drop_2 ⟨Nat.zero_le _, Nat.zero_le _⟩ (fun r1 hr1 => ?_)
  subst hr1
  by_cases q2 : (op ≠ 0 ∧ 0 ≤ kz ∧ kz < ((ec : Nat) : Int))
  · skip
    refine lv_as (y := nI 1) (congrArg nI (b01_t q2)) ?_
    refine j0_ne (tgt := 10) hx hb (nI_toInt (n := 1) (by decide)) dX1_drop_5 (by decide) (fun c3 => ?_) (fun c3 => absurd c3 (by omega))
    have t9 := ht (by omega)
    obtain ⟨j, hj⟩ : ∃ j : Nat, kz = (j : Int) := ⟨kz.toNat, by omega⟩
    have hj2 : kv = nI j := Int32.toInt_inj.mp (by rw [h1, hj, nI_toInt (by omega)])
    have hj3 : kz.toNat = j := by omega
    have e9 : dropF L op tn eb ec kz = (w1 (wR (w0 L) (3 - tn) (ec - 1) (bO (shf eb j (ec - 1 - j)) (ec - 1))) (64 * 0 + 0) (3 - tn), 3 - tn, shf eb j (ec - 1 - j), ec - 1, nI 1) := by rw [← hj3]; exact if_pos q2
    rw [e9]
    refine lv_aload_n hx hb dX1_drop_10 rfl (lv_at hl 0 rfl) ?_
    refine va_get (D := D) (ci := 2) (v := .ref a0) (C := RX1) (T := TX1) (N := 7) hx hb hts hinX1 hown hK hP 0 rfl rfl 0 (by decide) (hts (.fieldLink RX1 28 "PuzzleBook" "store" "LPuzzleBook$Store;") (by decide +kernel)) (fun _ h9 => h9) rfl dX1_drop_11 ?_
    refine wr_V (wr := [(b0, .inr (2, [.ref a0, .ref b1, .int (nI fc), .int (nI op), .int (nI tn), .ref b2, .int (nI ec)])), (b1, .inl (cI, 48, .inl (aI fd))), (b2, .inl (cI, 40, .inl (aI eb)))]) (wo := (bW b0 b1 b2 a0 a1 a2 a3 cB cI n (w0 L) fd fc op tn eb ec)) (As := []) (rest := []) ⟨hx, hb, hml, hown, hts⟩ (c_X0_beginChange l D a0 a1 a2 a3 cB cI n L  s.heap.size  ) (cwV 0 hts gX1_drop_X0_beginChange rfl rfl rfl (by decide +kernel) ⟨Nat.le_of_ble_eq_true rfl, Nat.le_of_ble_eq_true rfl⟩) hK hP hD hS hA [3, 4, 5, 6] [0, 1, 2] rfl rfl rfl rfl (by decide) [0, 1, 2, 3, 4, 5, 6] rfl rfl (ci := 1) rfl rfl (q0 := 3) rfl rfl hl.1 rfl (Nat.le_of_ble_eq_true rfl) dX1_drop_14 ⟨Nat.zero_le _, Nat.zero_le _⟩ (fun H locs hP hD hS => ?_)
    refine lv_aload_n hx hb dX1_drop_17 rfl (lv_at hl 0 rfl) ?_
    refine lv_iload_n hx hb dX1_drop_18 rfl (lv_at hl 1 rfl) ?_
    refine lv_as (y := nI j) hj2 ?_
    refine wr_V (wr := []) (wo := (bW b0 b1 b2 a0 a1 a2 a3 cB cI n (w0 L) fd fc op tn (shf eb j (ec - 1 - j)) (ec - 1))) (As := [.int (nI j)]) (rest := []) ⟨hx, hb, hml, hown, hts⟩ (c_X1_removeEntryBlock l D b0 b1 b2 a0 a1 a2 a3 cB cI n (w0 L) fd fc op tn eb ec j H.size  (by omega) he) (cwV 1 hts gX1_drop_X1_removeEntryBlock rfl rfl rfl (by decide +kernel) ⟨Nat.le_of_ble_eq_true rfl, Nat.le_of_ble_eq_true rfl⟩) hK hP hD hS hA [0, 1, 2, 3, 4, 5, 6] [] rfl rfl rfl rfl (by decide) [0, 1, 2, 3, 4, 5, 6] rfl rfl (ci := 2) rfl rfl (q0 := 0) rfl rfl hl.1 rfl (Nat.le_of_ble_eq_true rfl) dX1_drop_19 ⟨Nat.zero_le _, Nat.zero_le _⟩ (fun H locs hP hD hS => ?_)
    refine lv_aload_n hx hb dX1_drop_22 rfl (lv_at hl 0 rfl) ?_
    refine wr_V (wr := []) (wo := (bW b0 b1 b2 a0 a1 a2 a3 cB cI n (w1 (wR (w0 L) (3 - tn) (ec - 1) (bO (shf eb j (ec - 1 - j)) (ec - 1))) (64 * 0 + 0) (3 - tn)) fd fc op (3 - tn) (shf eb j (ec - 1 - j)) (ec - 1))) (As := []) (rest := []) ⟨hx, hb, hml, hown, hts⟩ (c_X1_writeOtherRootAndTurn l D b0 b1 b2 a0 a1 a2 a3 cB cI n (w0 L) fd fc op tn (shf eb j (ec - 1 - j)) (ec - 1)  H.size  hn0 hn hg (by omega) (shf_n (by omega) hE (by omega)) t9 (by show 0 + 65 ≤ 129; omega)) (cwV 0 hts gX1_drop_X1_writeOtherRootAndTurn rfl rfl rfl (by decide +kernel) ⟨Nat.le_of_ble_eq_true rfl, Nat.le_of_ble_eq_true rfl⟩) hK hP hD hS hA [0, 1, 2, 3, 4, 5, 6] [] rfl rfl rfl rfl (by decide) [0, 1, 2, 3, 4, 5, 6] rfl rfl (ci := 2) rfl rfl (q0 := 0) rfl rfl hl.1 rfl (Nat.le_of_ble_eq_true rfl) dX1_drop_23 ⟨Nat.zero_le _, Nat.zero_le _⟩ (fun H locs hP hD hS => ?_)
    refine lv_iconst (v := nI 1) hx hb dX1_drop_26 (by decide +kernel) ?_
    exact rt_wz hx hb hr hlocks hP hD hS dX1_drop_27 (by decide +kernel) rfl
  · skip
    refine lv_as (y := nI 0) (congrArg nI (b01_f q2)) ?_
    refine j0_ne (tgt := 10) hx hb (nI_toInt (n := 0) (by decide)) dX1_drop_5 (by decide) (fun c4 => absurd c4 (by omega)) (fun c4 => ?_)
    have e9 : dropF L op tn eb ec kz = (L, tn, eb, ec, nI 0) := if_neg q2
    rw [e9]
    refine lv_iconst (v := nI 0) hx hb dX1_drop_8 (by decide +kernel) ?_
    exact rt_wz hx hb hr hlocks hP hD hS dX1_drop_9 (by decide +kernel) rfl
set_option maxRecDepth 100000 in
set_option maxHeartbeats 4000000 in
/-- crash(kept) -/
theorem c_X1_crash (l : Launch) (D : va_G) (b0 b1 b2 a0 a1 a2 a3 : Nat) (cB cI : ClassId) (n : Nat) (L : Lg) (fd : Nat → Nat) (fc : Nat) (op : Nat) (tn : Nat) (eb : Nat → Nat) (ec : Nat) (kv : Int32) (kz : Int) (sz : Nat) (hn : n ≤ 64) (ho : op ≤ 1) (h2 : L.2.2.2 ≤ 129) (hp : op ≠ 0 → ∀ k, k < L.2.2.2 → L.2.1 k < 64 * n) (h1 : kv.toInt = kz) : Met l yX1_crash wsX1_crash ({ frames := 2, cells := 0, slots := 0, locals := 44 }) (wP [.ref b0, .int kv] D (bW b0 b1 b2 a0 a1 a2 a3 cB cI n L fd fc op tn eb ec) (ty2 cB cI) sz) (wQi ((crF L op kz).2.2) D (bW b0 b1 b2 a0 a1 a2 a3 cB cI n ((crF L op kz).1) fd fc ((crF L op kz).2.1) tn eb ec) (va_A (bW b0 b1 b2 a0 a1 a2 a3 cB cI n L fd fc op tn eb ec) sz)) 0 0 (va_A (bW b0 b1 b2 a0 a1 a2 a3 cB cI n L fd fc op tn eb ec) sz) := by
  refine met_wi (by decide) rfl (Nat.le_of_ble_eq_true rfl) ?_
  intro p e s m below meth c hx hb hml hr hlocks hown hts hP hK A hD hA hS ls hl
  have hown : s.vm.findClass RX1 = some m.cls := hown
  have hinX1 : ∀ w ∈ u_ws RX1 TX1 7, w ∈ wsX1_crash := by decide +kernel
  have hinX0 : ∀ w ∈ u_ws RX0 TX0 5, w ∈ wsX1_crash := by decide +kernel
  have hl : lv_has ls 3 [(0, .ref b0), (1, .int kv)] := hl
  refine lv_aload_n hx hb dX1_crash_0 rfl (lv_at hl 0 rfl) ?_
  refine va_get (D := D) (ci := 2) (v := .ref a0) (C := RX1) (T := TX1) (N := 7) hx hb hts hinX1 hown hK hP 0 rfl rfl 0 (by decide) (hts (.fieldLink RX1 28 "PuzzleBook" "store" "LPuzzleBook$Store;") (by decide +kernel)) (fun _ h9 => h9) rfl dX1_crash_1 ?_
  refine rd_V (As := []) (rest := []) ⟨hx, hb, hml, hown, hts⟩ (c_X0_writtenBytes l D a0 a1 a2 a3 cB cI n L  ) (cwV 0 hts gX1_crash_X0_writtenBytes rfl rfl rfl (by decide +kernel) ⟨Nat.le_of_ble_eq_true rfl, Nat.le_of_ble_eq_true rfl⟩) hK hP [3, 4, 5, 6] rfl (ci := 1) rfl rfl (q0 := 3) rfl rfl hl.1 rfl (Nat.le_of_ble_eq_true rfl) dX1_crash_4 ⟨Nat.zero_le _, Nat.zero_le _⟩ (fun r1 hr1 => ?_)
  subst hr1
  refine lv_istore_n (lv' := [(2, .int (nI L.2.2.2)), (0, .ref b0), (1, .int kv)]) hx hb dX1_crash_7 rfl hl (by decide) rfl (fun ls hl => ?_)
  refine lv_aload_n hx hb dX1_crash_8 rfl (lv_at hl 1 rfl) ?_
  refine va_get (D := D) (ci := 2) (v := .int (nI op)) (C := RX1) (T := TX1) (N := 7) hx hb hts hinX1 hown hK hP 0 rfl rfl 3 (by decide) (hts (.fieldLink RX1 45 "PuzzleBook" "isOpen" "Z") (by decide +kernel)) (fun _ h9 => h9) rfl dX1_crash_9 ?_
  refine j0_eq (tgt := 28) hx hb (nI_toInt (n := op) (by omega)) dX1_crash_12 (by decide) (fun c2 => ?_) (fun c2 => ?_)
  · skip
    have e9 : crF L op kz = (L, op, nI 0) := if_neg (by omega)
    rw [e9]
    refine lv_iconst (v := nI 0) hx hb dX1_crash_28 (by decide +kernel) ?_
    exact rt_wz hx hb hr hlocks hP hD hS dX1_crash_29 (by decide +kernel) rfl
  · skip
    refine lv_iload_n hx hb dX1_crash_15 rfl (lv_at hl 0 rfl) ?_
    refine j0_eq (tgt := 28) hx hb (nI_toInt (n := L.2.2.2) (by omega)) dX1_crash_16 (by decide) (fun c3 => ?_) (fun c3 => ?_)
    · skip
      have e9 : crF L op kz = (L, op, nI 0) := if_neg (by omega)
      rw [e9]
      refine lv_iconst (v := nI 0) hx hb dX1_crash_28 (by decide +kernel) ?_
      exact rt_wz hx hb hr hlocks hP hD hS dX1_crash_29 (by decide +kernel) rfl
    · skip
      refine lv_iload_n hx hb dX1_crash_19 rfl (lv_at hl 2 rfl) ?_
      refine j0_lt (tgt := 28) hx hb h1 dX1_crash_20 (by decide) (fun c4 => ?_) (fun c4 => ?_)
      · skip
        have e9 : crF L op kz = (L, op, nI 0) := if_neg (by omega)
        rw [e9]
        refine lv_iconst (v := nI 0) hx hb dX1_crash_28 (by decide +kernel) ?_
        exact rt_wz hx hb hr hlocks hP hD hS dX1_crash_29 (by decide +kernel) rfl
      · skip
        refine lv_iload_n hx hb dX1_crash_23 rfl (lv_at hl 2 rfl) ?_
        refine lv_iload_n hx hb dX1_crash_24 rfl (lv_at hl 0 rfl) ?_
        refine jb_le (tgt := 30) hx hb h1 (nI_toInt (n := L.2.2.2) (by omega)) dX1_crash_25 (by decide) (fun c5 => ?_) (fun c5 => ?_)
        · skip
          obtain ⟨j, hj⟩ : ∃ j : Nat, kz = (j : Int) := ⟨kz.toNat, by omega⟩
          have hj2 : kv = nI j := Int32.toInt_inj.mp (by rw [h1, hj, nI_toInt (by omega)])
          have hj3 : kz.toNat = j := by omega
          have e9 : crF L op kz = (wU L j, 0, nI 1) := by rw [← hj3]; exact if_pos (by omega)
          rw [e9]
          refine lv_aload_n hx hb dX1_crash_30 rfl (lv_at hl 1 rfl) ?_
          refine va_get (D := D) (ci := 2) (v := .ref a0) (C := RX1) (T := TX1) (N := 7) hx hb hts hinX1 hown hK hP 0 rfl rfl 0 (by decide) (hts (.fieldLink RX1 28 "PuzzleBook" "store" "LPuzzleBook$Store;") (by decide +kernel)) (fun _ h9 => h9) rfl dX1_crash_31 ?_
          refine lv_iload_n hx hb dX1_crash_34 rfl (lv_at hl 2 rfl) ?_
          refine lv_as (y := nI j) hj2 ?_
          refine wr_V (wr := [(b0, .inr (2, [.ref a0, .ref b1, .int (nI fc), .int (nI op), .int (nI tn), .ref b2, .int (nI ec)])), (b1, .inl (cI, 48, .inl (aI fd))), (b2, .inl (cI, 40, .inl (aI eb)))]) (wo := (bW b0 b1 b2 a0 a1 a2 a3 cB cI n (wU L j) fd fc op tn eb ec)) (As := [.int (nI j)]) (rest := []) ⟨hx, hb, hml, hown, hts⟩ (c_X0_undoAllBut l D a0 a1 a2 a3 cB cI n L j s.heap.size  hn (by omega) h2 (hp (by omega))) (cwV 1 hts gX1_crash_X0_undoAllBut rfl rfl rfl (by decide +kernel) ⟨Nat.le_of_ble_eq_true rfl, Nat.le_of_ble_eq_true rfl⟩) hK hP hD hS hA [3, 4, 5, 6] [0, 1, 2] rfl rfl rfl rfl (by decide) [0, 1, 2, 3, 4, 5, 6] rfl rfl (ci := 1) rfl rfl (q0 := 3) rfl rfl hl.1 rfl (Nat.le_of_ble_eq_true rfl) dX1_crash_35 ⟨Nat.zero_le _, Nat.zero_le _⟩ (fun H locs hP hD hS => ?_)
          refine lv_aload_n hx hb dX1_crash_38 rfl (lv_at hl 1 rfl) ?_
          refine lv_iconst (v := nI 0) hx hb dX1_crash_39 (by decide +kernel) ?_
          refine va_put (D := D) (ci := 2) (v := .int (nI 0)) (ty := .boolean) (C := RX1) (T := TX1) (N := 7) hx hb hts hinX1 tyX1 tyX1_ok nmX1 hown hK hP hD hS 0 rfl rfl 3 (by decide) (hts (.fieldLink RX1 45 "PuzzleBook" "isOpen" "Z") (by decide +kernel)) (fun _ h9 => h9) rfl (by decide +kernel) rfl rfl (Nat.le_of_ble_eq_true rfl) dX1_crash_40 (fun H locs hP hD hS => ?_)
          have hP : va_P D vwCl (bW b0 b1 b2 a0 a1 a2 a3 cB cI n (wU L j) fd fc 0 tn eb ec) H := hP
          have hD : va_D A (bW b0 b1 b2 a0 a1 a2 a3 cB cI n (wU L j) fd fc 0 tn eb ec) := hD
          refine lv_iconst (v := nI 1) hx hb dX1_crash_43 (by decide +kernel) ?_
          exact rt_wz hx hb hr hlocks hP hD hS dX1_crash_44 (by decide +kernel) rfl
        · skip
          have e9 : crF L op kz = (L, op, nI 0) := if_neg (by omega)
          rw [e9]
          refine lv_iconst (v := nI 0) hx hb dX1_crash_28 (by decide +kernel) ?_
          exact rt_wz hx hb hr hlocks hP hD hS dX1_crash_29 (by decide +kernel) rfl
set_option maxRecDepth 100000 in
set_option maxHeartbeats 4000000 in
/-- reopen() -/
theorem c_X1_reopen (l : Launch) (D : va_G) (b0 b1 b2 a0 a1 a2 a3 : Nat) (cB cI : ClassId) (n : Nat) (L : Lg) (fd : Nat → Nat) (fc : Nat) (op : Nat) (tn : Nat) (eb : Nat → Nat) (ec : Nat)  (sz : Nat) (hn0 : 4 ≤ n) (hn : n ≤ 64) (hg : ∀ j, L.1 j < 256) : Met l yX1_reopen wsX1_reopen ({ frames := 6, cells := 0, slots := 0, locals := 135 }) (wP [.ref b0] D (bW b0 b1 b2 a0 a1 a2 a3 cB cI n L fd fc op tn eb ec) (ty2 cB cI) sz) (wQi ((if (rfR L.1 n eb).toInt = -1 then nI (rfC L.1 n) else -1 - (rfR L.1 n eb))) D (bW b0 b1 b2 a0 a1 a2 a3 cB cI n (w0 L) fd fc (if (rfR L.1 n eb).toInt = -1 then 1 else 0) (L.1 0) (rfE L.1 n eb) (rfC L.1 n)) (va_A (bW b0 b1 b2 a0 a1 a2 a3 cB cI n L fd fc op tn eb ec) sz)) 0 0 (va_A (bW b0 b1 b2 a0 a1 a2 a3 cB cI n L fd fc op tn eb ec) sz) := by
  refine met_wi (by decide) rfl (Nat.le_of_ble_eq_true rfl) ?_
  intro p e s m below meth c hx hb hml hr hlocks hown hts hP hK A hD hA hS ls hl
  have hown : s.vm.findClass RX1 = some m.cls := hown
  have hinX1 : ∀ w ∈ u_ws RX1 TX1 7, w ∈ wsX1_reopen := by decide +kernel
  have hinX0 : ∀ w ∈ u_ws RX0 TX0 5, w ∈ wsX1_reopen := by decide +kernel
  have hl : lv_has ls 2 [(0, .ref b0)] := hl
  refine lv_aload_n hx hb dX1_reopen_0 rfl (lv_at hl 0 rfl) ?_
  refine va_get (D := D) (ci := 2) (v := .ref a0) (C := RX1) (T := TX1) (N := 7) hx hb hts hinX1 hown hK hP 0 rfl rfl 0 (by decide) (hts (.fieldLink RX1 28 "PuzzleBook" "store" "LPuzzleBook$Store;") (by decide +kernel)) (fun _ h9 => h9) rfl dX1_reopen_1 ?_
  refine wr_V (wr := [(b0, .inr (2, [.ref a0, .ref b1, .int (nI fc), .int (nI op), .int (nI tn), .ref b2, .int (nI ec)])), (b1, .inl (cI, 48, .inl (aI fd))), (b2, .inl (cI, 40, .inl (aI eb)))]) (wo := (bW b0 b1 b2 a0 a1 a2 a3 cB cI n (w0 L) fd fc op tn eb ec)) (As := []) (rest := []) ⟨hx, hb, hml, hown, hts⟩ (c_X0_beginChange l D a0 a1 a2 a3 cB cI n L  s.heap.size  ) (cwV 0 hts gX1_reopen_X0_beginChange rfl rfl rfl (by decide +kernel) ⟨Nat.le_of_ble_eq_true rfl, Nat.le_of_ble_eq_true rfl⟩) hK hP hD hS hA [3, 4, 5, 6] [0, 1, 2] rfl rfl rfl rfl (by decide) [0, 1, 2, 3, 4, 5, 6] rfl rfl (ci := 1) rfl rfl (q0 := 3) rfl rfl hl.1 rfl (Nat.le_of_ble_eq_true rfl) dX1_reopen_4 ⟨Nat.zero_le _, Nat.zero_le _⟩ (fun H locs hP hD hS => ?_)
  refine lv_aload_n hx hb dX1_reopen_7 rfl (lv_at hl 0 rfl) ?_
  refine wr_Vi (wr := []) (wo := (bW b0 b1 b2 a0 a1 a2 a3 cB cI n (w0 L) fd fc op ((w0 L).1 0) (rfE (w0 L).1 n eb) (rfC (w0 L).1 n))) (As := []) (rest := []) ⟨hx, hb, hml, hown, hts⟩ (c_X1_readFromStore l D b0 b1 b2 a0 a1 a2 a3 cB cI n (w0 L) fd fc op tn eb ec  H.size  hn0 hn hg) (cwV 0 hts gX1_reopen_X1_readFromStore rfl rfl rfl (by decide +kernel) ⟨Nat.le_of_ble_eq_true rfl, Nat.le_of_ble_eq_true rfl⟩) hK hP hD hS hA [0, 1, 2, 3, 4, 5, 6] [] rfl rfl rfl rfl (by decide) [0, 1, 2, 3, 4, 5, 6] rfl rfl (ci := 2) rfl rfl (q0 := 0) rfl rfl hl.1 rfl (Nat.le_of_ble_eq_true rfl) dX1_reopen_8 ⟨Nat.zero_le _, Nat.zero_le _⟩ (fun H locs hP hD hS => ?_)
  refine lv_istore_n (lv' := [(1, .int (rfR L.1 n eb)), (0, .ref b0)]) hx hb dX1_reopen_11 rfl hl (by decide) rfl (fun ls hl => ?_)
  refine lv_aload_n hx hb dX1_reopen_12 rfl (lv_at hl 1 rfl) ?_
  refine lv_iload_n hx hb dX1_reopen_13 rfl (lv_at hl 0 rfl) ?_
  refine lv_iconst (v := -1) hx hb dX1_reopen_14 (by decide +kernel) ?_
  refine jb_ne (tgt := 22) hx hb rfl neg1_toInt dX1_reopen_15 (by decide) (fun c1 => ?_) (fun c1 => ?_)
  · skip
    rw [if_neg c1, if_neg c1]
    refine lv_iconst (v := nI 0) hx hb dX1_reopen_22 (by decide +kernel) ?_
    refine va_put (D := D) (ci := 2) (v := .int (nI 0)) (ty := .boolean) (C := RX1) (T := TX1) (N := 7) hx hb hts hinX1 tyX1 tyX1_ok nmX1 hown hK hP hD hS 0 rfl rfl 3 (by decide) (hts (.fieldLink RX1 45 "PuzzleBook" "isOpen" "Z") (by decide +kernel)) (fun _ h9 => h9) rfl (by decide +kernel) rfl rfl (Nat.le_of_ble_eq_true rfl) dX1_reopen_23 (fun H locs hP hD hS => ?_)
    have hP : va_P D vwCl (bW b0 b1 b2 a0 a1 a2 a3 cB cI n (w0 L) fd fc 0 ((w0 L).1 0) (rfE (w0 L).1 n eb) (rfC (w0 L).1 n)) H := hP
    have hD : va_D A (bW b0 b1 b2 a0 a1 a2 a3 cB cI n (w0 L) fd fc 0 ((w0 L).1 0) (rfE (w0 L).1 n eb) (rfC (w0 L).1 n)) := hD
    refine lv_aload_n hx hb dX1_reopen_26 rfl (lv_at hl 1 rfl) ?_
    refine va_get (D := D) (ci := 2) (v := .int (nI 0)) (C := RX1) (T := TX1) (N := 7) hx hb hts hinX1 hown hK hP 0 rfl rfl 3 (by decide) (hts (.fieldLink RX1 45 "PuzzleBook" "isOpen" "Z") (by decide +kernel)) (fun _ h9 => h9) rfl dX1_reopen_27 ?_
    refine j0_eq (tgt := 40) hx hb (nI_toInt (n := 0) (by decide)) dX1_reopen_30 (by decide) (fun c2 => ?_) (fun c2 => absurd c2 (by omega))
    refine lv_iconst (v := -1) hx hb dX1_reopen_40 (by decide +kernel) ?_
    refine lv_iload_n hx hb dX1_reopen_41 rfl (lv_at hl 0 rfl) ?_
    refine lv_isub hx hb dX1_reopen_42 ?_
    exact rt_wi hx hb hr hlocks hP hD hS dX1_reopen_43 rfl
  · skip
    rw [if_pos c1, if_pos c1]
    refine lv_iconst (v := nI 1) hx hb dX1_reopen_18 (by decide +kernel) ?_
    refine lv_goto (tgt := 23) hx hb dX1_reopen_19 (by decide) ?_
    refine va_put (D := D) (ci := 2) (v := .int (nI 1)) (ty := .boolean) (C := RX1) (T := TX1) (N := 7) hx hb hts hinX1 tyX1 tyX1_ok nmX1 hown hK hP hD hS 0 rfl rfl 3 (by decide) (hts (.fieldLink RX1 45 "PuzzleBook" "isOpen" "Z") (by decide +kernel)) (fun _ h9 => h9) rfl (by decide +kernel) rfl rfl (Nat.le_of_ble_eq_true rfl) dX1_reopen_23 (fun H locs hP hD hS => ?_)
    have hP : va_P D vwCl (bW b0 b1 b2 a0 a1 a2 a3 cB cI n (w0 L) fd fc 1 ((w0 L).1 0) (rfE (w0 L).1 n eb) (rfC (w0 L).1 n)) H := hP
    have hD : va_D A (bW b0 b1 b2 a0 a1 a2 a3 cB cI n (w0 L) fd fc 1 ((w0 L).1 0) (rfE (w0 L).1 n eb) (rfC (w0 L).1 n)) := hD
    refine lv_aload_n hx hb dX1_reopen_26 rfl (lv_at hl 1 rfl) ?_
    refine va_get (D := D) (ci := 2) (v := .int (nI 1)) (C := RX1) (T := TX1) (N := 7) hx hb hts hinX1 hown hK hP 0 rfl rfl 3 (by decide) (hts (.fieldLink RX1 45 "PuzzleBook" "isOpen" "Z") (by decide +kernel)) (fun _ h9 => h9) rfl dX1_reopen_27 ?_
    refine j0_eq (tgt := 40) hx hb (nI_toInt (n := 1) (by decide)) dX1_reopen_30 (by decide) (fun c3 => absurd c3 (by omega)) (fun c3 => ?_)
    refine lv_aload_n hx hb dX1_reopen_33 rfl (lv_at hl 1 rfl) ?_
    refine va_get (D := D) (ci := 2) (v := .int (nI (rfC (w0 L).1 n))) (C := RX1) (T := TX1) (N := 7) hx hb hts hinX1 hown hK hP 0 rfl rfl 6 (by decide) (hts (.fieldLink RX1 20 "PuzzleBook" "entryCount" "I") (by decide +kernel)) (fun _ h9 => h9) rfl dX1_reopen_34 ?_
    refine lv_goto (tgt := 43) hx hb dX1_reopen_37 (by decide) ?_
    exact rt_wi hx hb hr hlocks hP hD hS dX1_reopen_43 rfl
set_option maxRecDepth 100000 in
set_option maxHeartbeats 4000000 in
/-- poke(block, i, mask) -/
theorem c_X1_poke (l : Launch) (D : va_G) (b0 b1 b2 a0 a1 a2 a3 : Nat) (cB cI : ClassId) (n : Nat) (L : Lg) (fd : Nat → Nat) (fc : Nat) (op : Nat) (tn : Nat) (eb : Nat → Nat) (ec : Nat) (bv iv mv : Int32) (bz iz mz : Int) (sz : Nat) (hn : n ≤ 64) (h1 : bv.toInt = bz) (h2 : iv.toInt = iz) (h3 : mv.toInt = mz) : Met l yX1_poke wsX1_poke ({ frames := 2, cells := 0, slots := 0, locals := 46 }) (wP [.ref b0, .int bv, .int iv, .int mv] D (bW b0 b1 b2 a0 a1 a2 a3 cB cI n L fd fc op tn eb ec) (ty2 cB cI) sz) (wQi ((pkF n L bz iz mz).2) D (bW b0 b1 b2 a0 a1 a2 a3 cB cI n ((pkF n L bz iz mz).1) fd fc op tn eb ec) (va_A (bW b0 b1 b2 a0 a1 a2 a3 cB cI n L fd fc op tn eb ec) sz)) 0 0 (va_A (bW b0 b1 b2 a0 a1 a2 a3 cB cI n L fd fc op tn eb ec) sz) := by
  refine met_wi (by decide) rfl (Nat.le_of_ble_eq_true rfl) ?_
  intro p e s m below meth c hx hb hml hr hlocks hown hts hP hK A hD hA hS ls hl
  have hown : s.vm.findClass RX1 = some m.cls := hown
  have hinX1 : ∀ w ∈ u_ws RX1 TX1 7, w ∈ wsX1_poke := by decide +kernel
  have hinX0 : ∀ w ∈ u_ws RX0 TX0 5, w ∈ wsX1_poke := by decide +kernel
  have hl : lv_has ls 4 [(0, .ref b0), (1, .int bv), (2, .int iv), (3, .int mv)] := hl
  refine lv_aload_n hx hb dX1_poke_0 rfl (lv_at hl 0 rfl) ?_
  refine va_get (D := D) (ci := 2) (v := .ref a0) (C := RX1) (T := TX1) (N := 7) hx hb hts hinX1 hown hK hP 0 rfl rfl 0 (by decide) (hts (.fieldLink RX1 28 "PuzzleBook" "store" "LPuzzleBook$Store;") (by decide +kernel)) (fun _ h9 => h9) rfl dX1_poke_1 ?_
  refine lv_iload_n hx hb dX1_poke_4 rfl (lv_at hl 1 rfl) ?_
  refine lv_iload_n hx hb dX1_poke_5 rfl (lv_at hl 2 rfl) ?_
  refine rd_V (As := [.int bv, .int iv]) (rest := []) ⟨hx, hb, hml, hown, hts⟩ (c_X0_has l D a0 a1 a2 a3 cB cI n L bv iv bz iz hn h1 h2) (cwV 2 hts gX1_poke_X0_has rfl rfl rfl (by decide +kernel) ⟨Nat.le_of_ble_eq_true rfl, Nat.le_of_ble_eq_true rfl⟩) hK hP [3, 4, 5, 6] rfl (ci := 1) rfl rfl (q0 := 3) rfl rfl hl.1 rfl (Nat.le_of_ble_eq_true rfl) dX1_poke_6 ⟨Nat.zero_le _, Nat.zero_le _⟩ (fun r1 hr1 => ?_)
  subst hr1
  by_cases q2 : (0 ≤ bz ∧ bz < (n : Int) ∧ 0 ≤ iz ∧ iz < 64)
  · skip
    refine lv_as (y := nI 1) (congrArg nI (b01_t q2)) ?_
    refine j0_eq (tgt := 24) hx hb (nI_toInt (n := 1) (by decide)) dX1_poke_9 (by decide) (fun c3 => absurd c3 (by omega)) (fun c3 => ?_)
    refine lv_iload_n hx hb dX1_poke_12 rfl (lv_at hl 3 rfl) ?_
    refine lv_iconst (v := nI 1) hx hb dX1_poke_13 (by decide +kernel) ?_
    refine jb_lt (tgt := 24) hx hb h3 (nI_toInt (n := 1) (by decide)) dX1_poke_14 (by decide) (fun c4 => ?_) (fun c4 => ?_)
    · skip
      have e9 : pkF n L bz iz mz = (L, nI 0) := if_neg (by omega)
      rw [e9]
      refine lv_iconst (v := nI 0) hx hb dX1_poke_24 (by decide +kernel) ?_
      exact rt_wz hx hb hr hlocks hP hD hS dX1_poke_25 (by decide +kernel) rfl
    · skip
      refine lv_iload_n hx hb dX1_poke_17 rfl (lv_at hl 3 rfl) ?_
      refine lv_sipush (v := nI 255) hx hb dX1_poke_18 (by decide +kernel) ?_
      refine jb_le (tgt := 26) hx hb h3 (nI_toInt (n := 255) (by decide)) dX1_poke_21 (by decide) (fun c5 => ?_) (fun c5 => ?_)
      · skip
        obtain ⟨jb, hjb⟩ : ∃ j : Nat, bz = (j : Int) := ⟨bz.toNat, by omega⟩
        have ejb : bv = nI jb := Int32.toInt_inj.mp (by rw [h1, hjb, nI_toInt (by omega)])
        have zjb : bz.toNat = jb := by omega
        obtain ⟨ji, hji⟩ : ∃ j : Nat, iz = (j : Int) := ⟨iz.toNat, by omega⟩
        have eji : iv = nI ji := Int32.toInt_inj.mp (by rw [h2, hji, nI_toInt (by omega)])
        have zji : iz.toNat = ji := by omega
        obtain ⟨jm, hjm⟩ : ∃ j : Nat, mz = (j : Int) := ⟨mz.toNat, by omega⟩
        have ejm : mv = nI jm := Int32.toInt_inj.mp (by rw [h3, hjm, nI_toInt (by omega)])
        have zjm : mz.toNat = jm := by omega
        have e9 : pkF n L bz iz mz = (wX L (64 * jb + ji) jm, nI 1) := by rw [← zjb, ← zji, ← zjm]; exact if_pos (by omega)
        rw [e9]
        refine lv_aload_n hx hb dX1_poke_26 rfl (lv_at hl 0 rfl) ?_
        refine va_get (D := D) (ci := 2) (v := .ref a0) (C := RX1) (T := TX1) (N := 7) hx hb hts hinX1 hown hK hP 0 rfl rfl 0 (by decide) (hts (.fieldLink RX1 28 "PuzzleBook" "store" "LPuzzleBook$Store;") (by decide +kernel)) (fun _ h9 => h9) rfl dX1_poke_27 ?_
        refine lv_iload_n hx hb dX1_poke_30 rfl (lv_at hl 1 rfl) ?_
        refine lv_as (y := nI jb) ejb ?_
        refine lv_iload_n hx hb dX1_poke_31 rfl (lv_at hl 2 rfl) ?_
        refine lv_as (y := nI ji) eji ?_
        refine lv_iload_n hx hb dX1_poke_32 rfl (lv_at hl 3 rfl) ?_
        refine lv_as (y := nI jm) ejm ?_
        refine wr_V (wr := [(b0, .inr (2, [.ref a0, .ref b1, .int (nI fc), .int (nI op), .int (nI tn), .ref b2, .int (nI ec)])), (b1, .inl (cI, 48, .inl (aI fd))), (b2, .inl (cI, 40, .inl (aI eb)))]) (wo := (bW b0 b1 b2 a0 a1 a2 a3 cB cI n (wX L (64 * jb + ji) jm) fd fc op tn eb ec)) (As := [.int (nI jb), .int (nI ji), .int (nI jm)]) (rest := []) ⟨hx, hb, hml, hown, hts⟩ (c_X0_alter l D a0 a1 a2 a3 cB cI n L jb ji jm s.heap.size  hn (by omega) (by omega)) (cwV 3 hts gX1_poke_X0_alter rfl rfl rfl (by decide +kernel) ⟨Nat.le_of_ble_eq_true rfl, Nat.le_of_ble_eq_true rfl⟩) hK hP hD hS hA [3, 4, 5, 6] [0, 1, 2] rfl rfl rfl rfl (by decide) [0, 1, 2, 3, 4, 5, 6] rfl rfl (ci := 1) rfl rfl (q0 := 3) rfl rfl hl.1 rfl (Nat.le_of_ble_eq_true rfl) dX1_poke_33 ⟨Nat.zero_le _, Nat.zero_le _⟩ (fun H locs hP hD hS => ?_)
        refine lv_iconst (v := nI 1) hx hb dX1_poke_36 (by decide +kernel) ?_
        exact rt_wz hx hb hr hlocks hP hD hS dX1_poke_37 (by decide +kernel) rfl
      · skip
        have e9 : pkF n L bz iz mz = (L, nI 0) := if_neg (by omega)
        rw [e9]
        refine lv_iconst (v := nI 0) hx hb dX1_poke_24 (by decide +kernel) ?_
        exact rt_wz hx hb hr hlocks hP hD hS dX1_poke_25 (by decide +kernel) rfl
  · skip
    refine lv_as (y := nI 0) (congrArg nI (b01_f q2)) ?_
    refine j0_eq (tgt := 24) hx hb (nI_toInt (n := 0) (by decide)) dX1_poke_9 (by decide) (fun c6 => ?_) (fun c6 => absurd c6 (by omega))
    have e9 : pkF n L bz iz mz = (L, nI 0) := if_neg (by omega)
    rw [e9]
    refine lv_iconst (v := nI 0) hx hb dX1_poke_24 (by decide +kernel) ?_
    exact rt_wz hx hb hr hlocks hP hD hS dX1_poke_25 (by decide +kernel) rfl
