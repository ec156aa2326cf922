/-! 08: PuzzleBook, its writes (laid by wip/whole/gen/gen_write.py) -/
theorem w1_c (L : Lg) (a x : Nat) : (w1 L a x).2.2.2 = L.2.2.2 + 1 := rfl
theorem w1_lt {L : Lg} {pl x : Nat} (hg : ∀ j, L.1 j < 256) (hx : x < 256) : ∀ j, (w1 L pl x).1 j < 256 := fun j => by
  show va_up _ _ _ j < 256
  unfold va_up; split
  · exact hx
  · exact hg j
theorem wS_lt {L : Lg} {p : Nat} (hg : ∀ j, L.1 j < 256) : ∀ j, (wS L p).1 j < 256 := wN_lt hg (sby_lt _) 4
theorem wS_c (L : Lg) (p : Nat) : (wS L p).2.2.2 = L.2.2.2 + 4 := wN_c L _ _ 4
/-- an entry's block written -/
def wE (L : Lg) (b nm fc : Nat) (fd : Nat → Nat) : Lg := wS (wN (w1 (w1 (w1 L (64 * b + 0) (nm % 256)) (64 * b + 1) (nm / 256)) (64 * b + 2) fc) (64 * b + 3) (bO fd fc) 57) (64 * b)
/-- a root block written -/
def wR (L : Lg) (b ec : Nat) (v : Nat → Nat) : Lg := wS (wN (w1 L (64 * b + 0) ec) (64 * b + 1) v 59) (64 * b)
theorem wE_c (L : Lg) (b nm fc : Nat) (fd : Nat → Nat) : (wE L b nm fc fd).2.2.2 = L.2.2.2 + 64 := by
  unfold wE; rw [wS_c, wN_c, w1_c, w1_c, w1_c]
theorem wR_c (L : Lg) (b ec : Nat) (v : Nat → Nat) : (wR L b ec v).2.2.2 = L.2.2.2 + 64 := by
  unfold wR; rw [wS_c, wN_c, w1_c]
theorem wE_lt {L : Lg} {b nm fc : Nat} {fd : Nat → Nat} (hg : ∀ j, L.1 j < 256) (hn : nm < 65536) (hf : fc ≤ 48) (hd : ∀ i, fd i < 256) : ∀ j, (wE L b nm fc fd).1 j < 256 :=
  wS_lt (wN_lt (w1_lt (w1_lt (w1_lt hg (Nat.mod_lt _ (by decide))) (by omega)) (by omega)) (bO_lt (by decide) (fun k _ => hd k)) 57)
theorem wR_lt {L : Lg} {b ec : Nat} {v : Nat → Nat} (hg : ∀ j, L.1 j < 256) (he : ec ≤ 40) (hv : ∀ i, v i < 256) : ∀ j, (wR L b ec v).1 j < 256 :=
  wS_lt (wN_lt (w1_lt hg (by omega)) hv 59)
/-- the entries behind k, j of them, one place down -/
def shf (eb : Nat → Nat) (k : Nat) : Nat → Nat → Nat
  | 0 => eb
  | j + 1 => va_up (shf eb k j) (k + j) (shf eb k j (k + j + 1))
/-- the root's entries, the first k of them -/
def cpE (g : Nat → Nat) (b : Nat) (eb : Nat → Nat) : Nat → Nat → Nat
  | 0 => eb
  | k + 1 => va_up (cpE g b eb k) k (g (64 * b + (1 + k)))
theorem cpE_at {g eb : Nat → Nat} {b : Nat} : ∀ {k j : Nat}, j < k → cpE g b eb k j = g (64 * b + (1 + j))
  | k + 1, j, h => by
    show va_up _ _ _ j = _
    unfold va_up; split
    · subst_vars; rfl
    · exact cpE_at (by omega)
/-- entry k of a root isn't right -/
def badK (g : Nat → Nat) (b n k : Nat) : Prop := g (64 * b + (1 + k)) < 3 ∨ n ≤ g (64 * b + (1 + k)) ∨ ∃ j, j < k ∧ g (64 * b + (1 + j)) = g (64 * b + (1 + k))
def gdR (g : Nat → Nat) (b : Nat) : Prop := okS g (64 * b) ∧ g (64 * b) ≤ 40
/-- how many entries of a root are read -/
noncomputable def rdN (g : Nat → Nat) (b n : Nat) : Nat := @ite Nat (gdR g b) (Classical.propDecidable _) (fN (badK g b n) (g (64 * b))) 0
/-- the root is right -/
def rdO (g : Nat → Nat) (b n : Nat) : Prop := gdR g b ∧ ∀ k, k < g (64 * b) → ¬ badK g b n k
theorem rdN_f {g : Nat → Nat} {b n : Nat} (h : ¬ gdR g b) : rdN g b n = 0 := if_neg h
theorem rdN_t {g : Nat → Nat} {b n : Nat} (h : gdR g b) : rdN g b n = fN (badK g b n) (g (64 * b)) := if_pos h
theorem rdN_le {g : Nat → Nat} {b n : Nat} : rdN g b n ≤ 40 := by
  by_cases h : gdR g b
  · rw [rdN_t h]; exact Nat.le_trans (fN_le _ _) h.2
  · rw [rdN_f h]; omega
theorem rdO_N {g : Nat → Nat} {b n : Nat} (h : rdO g b n) : rdN g b n = g (64 * b) := by rw [rdN_t h.1, fN_no h.2]
theorem cpE_n {g eb : Nat → Nat} {b n k : Nat} (h0 : 0 < n) (h : ∀ j, j < k → ¬ badK g b n j) (i : Nat) : bO (cpE g b eb k) k i < n :=
  bO_lt h0 (fun j hj => by
    rw [cpE_at hj]
    rcases Nat.lt_or_ge (g (64 * b + (1 + j))) n with q | q
    · exact q
    · exact absurd (Or.inr (Or.inl q)) (h j hj)) i
theorem rdN_n {g eb : Nat → Nat} {b n : Nat} (h0 : 0 < n) (i : Nat) : bO (cpE g b eb (rdN g b n)) (rdN g b n) i < n := by
  by_cases h : gdR g b
  · rw [rdN_t h]; exact cpE_n h0 (fun j hj => fN_not hj) i
  · rw [rdN_f h]; exact bO_lt h0 (fun j hj => absurd hj (Nat.not_lt_zero j)) i
theorem tk_cpE {g eb : Nat → Nat} {b k x : Nat} : tk (bO (cpE g b eb k) k) k x ↔ ∃ j, j < k ∧ g (64 * b + (1 + j)) = x := by
  constructor
  · intro ⟨j, hj, e⟩
    rw [bO_t hj, cpE_at hj] at e
    exact ⟨j, hj, e⟩
  · intro ⟨j, hj, e⟩
    exact ⟨j, hj, by rw [bO_t hj, cpE_at hj]; exact e⟩
set_option maxRecDepth 100000 in
set_option maxHeartbeats 4000000 in
/-- addEntryBlock(block) -/
theorem c_X1_addEntryBlock (l : Launch) (D : va_G) (b0 b1 b2 a0 a1 a2 a3 : Nat) (cB cI : ClassId) (n : Nat) (L : Lg) (fd : Nat → Nat) (fc : Nat) (op : Nat) (tn : Nat) (eb : Nat → Nat) (ec : Nat) (bk : Nat) (sz : Nat) (h1 : ec < 40) : Met l yX1_addEntryBlock wsX1_addEntryBlock ({ frames := 0, cells := 0, slots := 0, locals := 0 }) (wP [.ref b0, .int (nI bk)] D (bW b0 b1 b2 a0 a1 a2 a3 cB cI n L fd fc op tn eb ec) (ty2 cB cI) sz) (wQv D (bW b0 b1 b2 a0 a1 a2 a3 cB cI n L fd fc op tn (va_up eb ec bk) (ec + 1)) (va_A (bW b0 b1 b2 a0 a1 a2 a3 cB cI n L fd fc op tn eb ec) sz)) 0 0 (va_A (bW b0 b1 b2 a0 a1 a2 a3 cB cI n L fd fc op tn eb ec) sz) := by
  refine met_w (by decide) rfl (Nat.le_of_ble_eq_true rfl) ?_
  intro p e s m below meth c hx hb hml hr hlocks hown hts hP hK A hD hA hS ls hl
  have hown : s.vm.findClass RX1 = some m.cls := hown
  have hinX1 : ∀ w ∈ u_ws RX1 TX1 7, w ∈ wsX1_addEntryBlock := by decide +kernel
  have hl : lv_has ls 2 [(0, .ref b0), (1, .int (nI bk))] := hl
  refine lv_aload_n hx hb dX1_addEntryBlock_0 rfl (lv_at hl 0 rfl) ?_
  refine va_get (D := D) (ci := 2) (v := .int (nI ec)) (C := RX1) (T := TX1) (N := 7) hx hb hts hinX1 hown hK hP 0 rfl rfl 6 (by decide) (hts (.fieldLink RX1 20 "PuzzleBook" "entryCount" "I") (by decide +kernel)) (fun _ h9 => h9) rfl dX1_addEntryBlock_1 ?_
  refine j0_lt (tgt := 39) hx hb (nI_toInt (n := ec) (by omega)) dX1_addEntryBlock_4 (by decide) (fun c1 => absurd c1 (by omega)) (fun c1 => ?_)
  refine lv_aload_n hx hb dX1_addEntryBlock_7 rfl (lv_at hl 0 rfl) ?_
  refine va_get (D := D) (ci := 2) (v := .int (nI ec)) (C := RX1) (T := TX1) (N := 7) hx hb hts hinX1 hown hK hP 0 rfl rfl 6 (by decide) (hts (.fieldLink RX1 20 "PuzzleBook" "entryCount" "I") (by decide +kernel)) (fun _ h9 => h9) rfl dX1_addEntryBlock_8 ?_
  refine lv_aload_n hx hb dX1_addEntryBlock_11 rfl (lv_at hl 0 rfl) ?_
  refine va_get (D := D) (ci := 2) (v := .ref b2) (C := RX1) (T := TX1) (N := 7) hx hb hts hinX1 hown hK hP 0 rfl rfl 5 (by decide) (hts (.fieldLink RX1 17 "PuzzleBook" "entryBlocks" "[I") (by decide +kernel)) (fun _ h9 => h9) rfl dX1_addEntryBlock_12 ?_
  refine al_i hx hb hK hP 2 1 rfl rfl dX1_addEntryBlock_15 ?_
  refine jb_ge (tgt := 39) hx hb (nI_toInt (n := ec) (by omega)) (nI_toInt (n := 40) (by decide)) dX1_addEntryBlock_16 (by decide) (fun c2 => absurd c2 (by omega)) (fun c2 => ?_)
  refine lv_aload_n hx hb dX1_addEntryBlock_19 rfl (lv_at hl 0 rfl) ?_
  refine va_get (D := D) (ci := 2) (v := .ref b2) (C := RX1) (T := TX1) (N := 7) hx hb hts hinX1 hown hK hP 0 rfl rfl 5 (by decide) (hts (.fieldLink RX1 17 "PuzzleBook" "entryBlocks" "[I") (by decide +kernel)) (fun _ h9 => h9) rfl dX1_addEntryBlock_20 ?_
  refine lv_aload_n hx hb dX1_addEntryBlock_23 rfl (lv_at hl 0 rfl) ?_
  refine va_get (D := D) (ci := 2) (v := .int (nI ec)) (C := RX1) (T := TX1) (N := 7) hx hb hts hinX1 hown hK hP 0 rfl rfl 6 (by decide) (hts (.fieldLink RX1 20 "PuzzleBook" "entryCount" "I") (by decide +kernel)) (fun _ h9 => h9) rfl dX1_addEntryBlock_24 ?_
  refine lv_iload_n hx hb dX1_addEntryBlock_27 rfl (lv_at hl 1 rfl) ?_
  refine st_i (f := eb) (k := ec) (x := bk) hx hb hK hP hD hS 2 1 rfl rfl (by omega) (by decide) dX1_addEntryBlock_28 (fun H locs hP hD hS => ?_)
  have hP : va_P D vwCl (bW b0 b1 b2 a0 a1 a2 a3 cB cI n L fd fc op tn (va_up eb ec bk) ec) H := hP
  have hD : va_D A (bW b0 b1 b2 a0 a1 a2 a3 cB cI n L fd fc op tn (va_up eb ec bk) ec) := hD
  refine lv_aload_n hx hb dX1_addEntryBlock_29 rfl (lv_at hl 0 rfl) ?_
  refine lv_dup hx hb dX1_addEntryBlock_30 rfl ?_
  refine va_get (D := D) (ci := 2) (v := .int (nI ec)) (C := RX1) (T := TX1) (N := 7) hx hb hts hinX1 hown hK hP 0 rfl rfl 6 (by decide) (hts (.fieldLink RX1 20 "PuzzleBook" "entryCount" "I") (by decide +kernel)) (fun _ h9 => h9) rfl dX1_addEntryBlock_31 ?_
  refine lv_iconst (v := nI 1) hx hb dX1_addEntryBlock_34 (by decide +kernel) ?_
  refine lv_iadd hx hb dX1_addEntryBlock_35 ?_
  refine lv_as (y := nI (ec + 1)) (nI_add _ _) ?_
  refine va_put (D := D) (ci := 2) (v := .int (nI (ec + 1))) (ty := .int) (C := RX1) (T := TX1) (N := 7) hx hb hts hinX1 tyX1 tyX1_ok nmX1 hown hK hP hD hS 0 rfl rfl 6 (by decide) (hts (.fieldLink RX1 20 "PuzzleBook" "entryCount" "I") (by decide +kernel)) (fun _ h9 => h9) rfl (by decide +kernel) rfl rfl (Nat.le_of_ble_eq_true rfl) dX1_addEntryBlock_36 (fun H locs hP hD hS => ?_)
  have hP : va_P D vwCl (bW b0 b1 b2 a0 a1 a2 a3 cB cI n L fd fc op tn (va_up eb ec bk) (ec + 1)) H := hP
  have hD : va_D A (bW b0 b1 b2 a0 a1 a2 a3 cB cI n L fd fc op tn (va_up eb ec bk) (ec + 1)) := hD
  exact rt_v hx hb hr hlocks hP hD hS dX1_addEntryBlock_39
set_option maxRecDepth 100000 in
set_option maxHeartbeats 4000000 in
/-- removeEntryBlock(k) -/
theorem c_X1_removeEntryBlock (l : Launch) (D : va_G) (b0 b1 b2 a0 a1 a2 a3 : Nat) (cB cI : ClassId) (n : Nat) (L : Lg) (fd : Nat → Nat) (fc : Nat) (op : Nat) (tn : Nat) (eb : Nat → Nat) (ec : Nat) (k : Nat) (sz : Nat) (h1 : k < ec) (h2 : ec ≤ 40) : Met l yX1_removeEntryBlock wsX1_removeEntryBlock ({ frames := 0, cells := 0, slots := 0, locals := 0 }) (wP [.ref b0, .int (nI k)] D (bW b0 b1 b2 a0 a1 a2 a3 cB cI n L fd fc op tn eb ec) (ty2 cB cI) sz) (wQv D (bW b0 b1 b2 a0 a1 a2 a3 cB cI n L fd fc op tn (shf eb k (ec - 1 - k)) (ec - 1)) (va_A (bW b0 b1 b2 a0 a1 a2 a3 cB cI n L fd fc op tn eb ec) sz)) 0 0 (va_A (bW b0 b1 b2 a0 a1 a2 a3 cB cI n L fd fc op tn eb ec) sz) := by
  refine met_w (by decide) rfl (Nat.le_of_ble_eq_true rfl) ?_
  intro p e s m below meth c hx hb hml hr hlocks hown hts hP hK A hD hA hS ls hl
  have hown : s.vm.findClass RX1 = some m.cls := hown
  have hinX1 : ∀ w ∈ u_ws RX1 TX1 7, w ∈ wsX1_removeEntryBlock := by decide +kernel
  have hl : lv_has ls 3 [(0, .ref b0), (1, .int (nI k))] := hl
  have loop : ∀ (fu j : Nat), k + j + 1 ≤ ec → ec - (k + j) < fu → ∀ (H : Heap) (locs : List Loc), va_P D vwCl (bW b0 b1 b2 a0 a1 a2 a3 cB cI n L fd fc op tn (shf eb k j) ec) H → va_D A (bW b0 b1 b2 a0 a1 a2 a3 cB cI n L fd fc op tn (shf eb k j) ec) → va_S A s.heap H locs → ∀ ls : Array Slot, lv_has ls 3 [(2, .int (nI (k + j))), (0, .ref b0), (1, .int (nI k))] → W p l e ({ frames := 0, cells := 0, slots := 0, locals := 0 }) s m [.ref b0, .int (nI k)].toArray below meth c H locs 0 0 (MQ below (wQv D (bW b0 b1 b2 a0 a1 a2 a3 cB cI n L fd fc op tn (shf eb k (ec - 1 - k)) (ec - 1)) A) [.ref b0, .int (nI k)].toArray s 0 0 A) (F0 m 15 ls []) := by
    intro fu
    induction fu with
    | zero => intro j hj hf; omega
    | succ fu ih =>
      intro j hj hf H locs hP hD hS ls hl
      refine lv_iload_n hx hb dX1_removeEntryBlock_15 rfl (lv_at hl 0 rfl) ?_
      refine lv_iconst (v := nI 1) hx hb dX1_removeEntryBlock_16 (by decide +kernel) ?_
      refine lv_iadd hx hb dX1_removeEntryBlock_17 ?_
      refine lv_as (y := nI ((k + j) + 1)) (nI_add _ _) ?_
      refine lv_aload_n hx hb dX1_removeEntryBlock_18 rfl (lv_at hl 1 rfl) ?_
      refine va_get (D := D) (ci := 2) (v := .int (nI ec)) (C := RX1) (T := TX1) (N := 7) hx hb hts hinX1 hown hK hP 0 rfl rfl 6 (by decide) (hts (.fieldLink RX1 20 "PuzzleBook" "entryCount" "I") (by decide +kernel)) (fun _ h9 => h9) rfl dX1_removeEntryBlock_19 ?_
      refine jb_ge (tgt := 56) hx hb (nI_toInt (n := (k + j) + 1) (by omega)) (nI_toInt (n := ec) (by omega)) dX1_removeEntryBlock_22 (by decide) (fun c1 => ?_) (fun c1 => ?_)
      · skip
        refine lv_aload_n hx hb dX1_removeEntryBlock_56 rfl (lv_at hl 1 rfl) ?_
        refine lv_dup hx hb dX1_removeEntryBlock_57 rfl ?_
        refine va_get (D := D) (ci := 2) (v := .int (nI ec)) (C := RX1) (T := TX1) (N := 7) hx hb hts hinX1 hown hK hP 0 rfl rfl 6 (by decide) (hts (.fieldLink RX1 20 "PuzzleBook" "entryCount" "I") (by decide +kernel)) (fun _ h9 => h9) rfl dX1_removeEntryBlock_58 ?_
        refine lv_iconst (v := nI 1) hx hb dX1_removeEntryBlock_61 (by decide +kernel) ?_
        refine lv_isub hx hb dX1_removeEntryBlock_62 ?_
        refine lv_as (y := nI (ec - 1)) (pk_sub (by omega)) ?_
        refine va_put (D := D) (ci := 2) (v := .int (nI (ec - 1))) (ty := .int) (C := RX1) (T := TX1) (N := 7) hx hb hts hinX1 tyX1 tyX1_ok nmX1 hown hK hP hD hS 0 rfl rfl 6 (by decide) (hts (.fieldLink RX1 20 "PuzzleBook" "entryCount" "I") (by decide +kernel)) (fun _ h9 => h9) rfl (by decide +kernel) rfl rfl (Nat.le_of_ble_eq_true rfl) dX1_removeEntryBlock_63 (fun H locs hP hD hS => ?_)
        have hP : va_P D vwCl (bW b0 b1 b2 a0 a1 a2 a3 cB cI n L fd fc op tn (shf eb k j) (ec - 1)) H := hP
        have hD : va_D A (bW b0 b1 b2 a0 a1 a2 a3 cB cI n L fd fc op tn (shf eb k j) (ec - 1)) := hD
        have e9 : ec - 1 - k = j := by omega
        rw [e9]
        exact rt_v hx hb hr hlocks hP hD hS dX1_removeEntryBlock_66
      · skip
        refine lv_iload_n hx hb dX1_removeEntryBlock_25 rfl (lv_at hl 0 rfl) ?_
        refine lv_iconst (v := nI 1) hx hb dX1_removeEntryBlock_26 (by decide +kernel) ?_
        refine lv_iadd hx hb dX1_removeEntryBlock_27 ?_
        refine lv_as (y := nI ((k + j) + 1)) (nI_add _ _) ?_
        refine lv_aload_n hx hb dX1_removeEntryBlock_28 rfl (lv_at hl 1 rfl) ?_
        refine va_get (D := D) (ci := 2) (v := .ref b2) (C := RX1) (T := TX1) (N := 7) hx hb hts hinX1 hown hK hP 0 rfl rfl 5 (by decide) (hts (.fieldLink RX1 17 "PuzzleBook" "entryBlocks" "[I") (by decide +kernel)) (fun _ h9 => h9) rfl dX1_removeEntryBlock_29 ?_
        refine al_i hx hb hK hP 2 1 rfl rfl dX1_removeEntryBlock_32 ?_
        refine jb_ge (tgt := 56) hx hb (nI_toInt (n := (k + j) + 1) (by omega)) (nI_toInt (n := 40) (by decide)) dX1_removeEntryBlock_33 (by decide) (fun c2 => absurd c2 (by omega)) (fun c2 => ?_)
        refine lv_aload_n hx hb dX1_removeEntryBlock_36 rfl (lv_at hl 1 rfl) ?_
        refine va_get (D := D) (ci := 2) (v := .ref b2) (C := RX1) (T := TX1) (N := 7) hx hb hts hinX1 hown hK hP 0 rfl rfl 5 (by decide) (hts (.fieldLink RX1 17 "PuzzleBook" "entryBlocks" "[I") (by decide +kernel)) (fun _ h9 => h9) rfl dX1_removeEntryBlock_37 ?_
        refine lv_iload_n hx hb dX1_removeEntryBlock_40 rfl (lv_at hl 0 rfl) ?_
        refine lv_aload_n hx hb dX1_removeEntryBlock_41 rfl (lv_at hl 1 rfl) ?_
        refine va_get (D := D) (ci := 2) (v := .ref b2) (C := RX1) (T := TX1) (N := 7) hx hb hts hinX1 hown hK hP 0 rfl rfl 5 (by decide) (hts (.fieldLink RX1 17 "PuzzleBook" "entryBlocks" "[I") (by decide +kernel)) (fun _ h9 => h9) rfl dX1_removeEntryBlock_42 ?_
        refine lv_iload_n hx hb dX1_removeEntryBlock_45 rfl (lv_at hl 0 rfl) ?_
        refine lv_iconst (v := nI 1) hx hb dX1_removeEntryBlock_46 (by decide +kernel) ?_
        refine lv_iadd hx hb dX1_removeEntryBlock_47 ?_
        refine lv_as (y := nI ((k + j) + 1)) (nI_add _ _) ?_
        refine ld_i (f := shf eb k j) (k := (k + j) + 1) hx hb hK hP 2 1 rfl rfl (by omega) (by decide) dX1_removeEntryBlock_48 ?_
        refine st_i (f := shf eb k j) (k := k + j) (x := (shf eb k j) ((k + j) + 1)) hx hb hK hP hD hS 2 1 rfl rfl (by omega) (by decide) dX1_removeEntryBlock_49 (fun H locs hP hD hS => ?_)
        have hP : va_P D vwCl (bW b0 b1 b2 a0 a1 a2 a3 cB cI n L fd fc op tn (va_up (shf eb k j) (k + j) ((shf eb k j) ((k + j) + 1))) ec) H := hP
        have hD : va_D A (bW b0 b1 b2 a0 a1 a2 a3 cB cI n L fd fc op tn (va_up (shf eb k j) (k + j) ((shf eb k j) ((k + j) + 1))) ec) := hD
        refine lv_iinc (v := nI (k + j + 1)) (lv' := [(2, .int (nI (k + j + 1))), (0, .ref b0), (1, .int (nI k))]) hx hb dX1_removeEntryBlock_50 hl (k := 0) rfl (nI_add _ 1) (by decide) rfl (fun ls hl => ?_)
        refine lv_goto (tgt := 15) hx hb dX1_removeEntryBlock_53 (by decide) ?_
        exact ih (j + 1) (by omega) (by omega) H locs hP hD hS ls (lv_sub hl [0, 1, 2] rfl)
  refine lv_iload_n hx hb dX1_removeEntryBlock_0 rfl (lv_at hl 1 rfl) ?_
  refine j0_lt (tgt := 12) hx hb (nI_toInt (n := k) (by omega)) dX1_removeEntryBlock_1 (by decide) (fun c3 => absurd c3 (by omega)) (fun c3 => ?_)
  refine lv_iload_n hx hb dX1_removeEntryBlock_4 rfl (lv_at hl 1 rfl) ?_
  refine lv_aload_n hx hb dX1_removeEntryBlock_5 rfl (lv_at hl 0 rfl) ?_
  refine va_get (D := D) (ci := 2) (v := .int (nI ec)) (C := RX1) (T := TX1) (N := 7) hx hb hts hinX1 hown hK hP 0 rfl rfl 6 (by decide) (hts (.fieldLink RX1 20 "PuzzleBook" "entryCount" "I") (by decide +kernel)) (fun _ h9 => h9) rfl dX1_removeEntryBlock_6 ?_
  refine jb_lt (tgt := 13) hx hb (nI_toInt (n := k) (by omega)) (nI_toInt (n := ec) (by omega)) dX1_removeEntryBlock_9 (by decide) (fun c4 => ?_) (fun c4 => absurd c4 (by omega))
  refine lv_iload_n hx hb dX1_removeEntryBlock_13 rfl (lv_at hl 1 rfl) ?_
  refine lv_istore_n (lv' := [(2, .int (nI k)), (0, .ref b0), (1, .int (nI k))]) hx hb dX1_removeEntryBlock_14 rfl hl (by decide) rfl (fun ls hl => ?_)
  exact loop (ec + 1) 0 (by omega) (by omega) s.heap [] hP hD hS ls (lv_sub hl [0, 1, 2] rfl)
set_option maxRecDepth 100000 in
set_option maxHeartbeats 4000000 in
/-- writeEntryBlock(block, name) -/
theorem c_X1_writeEntryBlock (l : Launch) (D : va_G) (b0 b1 b2 a0 a1 a2 a3 : Nat) (cB cI : ClassId) (n : Nat) (L : Lg) (fd : Nat → Nat) (fc : Nat) (op : Nat) (tn : Nat) (eb : Nat → Nat) (ec : Nat) (bk nm : Nat) (sz : Nat) (hn : n ≤ 64) (hg : ∀ j, L.1 j < 256) (h1 : bk < n) (h2 : nm < 65536) (hf : fc ≤ 48) (hd : ∀ i, fd i < 256) (hw : L.2.2.2 + 64 ≤ 129) : Met l yX1_writeEntryBlock wsX1_writeEntryBlock ({ frames := 4, cells := 0, slots := 0, locals := 91 }) (wP [.ref b0, .int (nI bk), .int (nI nm)] D (bW b0 b1 b2 a0 a1 a2 a3 cB cI n L fd fc op tn eb ec) (ty2 cB cI) sz) (wQv D (bW b0 b1 b2 a0 a1 a2 a3 cB cI n (wE L bk nm fc fd) fd fc op tn eb ec) (va_A (bW b0 b1 b2 a0 a1 a2 a3 cB cI n L fd fc op tn eb ec) sz)) 0 0 (va_A (bW b0 b1 b2 a0 a1 a2 a3 cB cI n L fd fc op tn eb ec) sz) := by
  refine met_w (by decide) rfl (Nat.le_of_ble_eq_true rfl) ?_
  intro p e s m below meth c hx hb hml hr hlocks hown hts hP hK A hD hA hS ls hl
  have hown : s.vm.findClass RX1 = some m.cls := hown
  have hinX1 : ∀ w ∈ u_ws RX1 TX1 7, w ∈ wsX1_writeEntryBlock := by decide +kernel
  have hinX0 : ∀ w ∈ u_ws RX0 TX0 5, w ∈ wsX1_writeEntryBlock := by decide +kernel
  have hl : lv_has ls 4 [(0, .ref b0), (1, .int (nI bk)), (2, .int (nI nm))] := hl
  have loop : ∀ (fu k : Nat), k ≤ 57 → 57 - k < fu → ∀ (H : Heap) (locs : List Loc), va_P D vwCl (bW b0 b1 b2 a0 a1 a2 a3 cB cI n (wN (w1 (w1 (w1 L (64 * bk + 0) (nm % 256)) (64 * bk + 1) (nm / 256)) (64 * bk + 2) fc) (64 * bk + 3) (bO fd fc) k) fd fc op tn eb ec) H → va_D A (bW b0 b1 b2 a0 a1 a2 a3 cB cI n (wN (w1 (w1 (w1 L (64 * bk + 0) (nm % 256)) (64 * bk + 1) (nm / 256)) (64 * bk + 2) fc) (64 * bk + 3) (bO fd fc) k) fd fc op tn eb ec) → va_S A s.heap H locs → ∀ ls : Array Slot, lv_has ls 4 [(3, .int (nI (3 + k))), (0, .ref b0), (1, .int (nI bk)), (2, .int (nI nm))] → W p l e ({ frames := 4, cells := 0, slots := 0, locals := 91 }) s m [.ref b0, .int (nI bk), .int (nI nm)].toArray below meth c H locs 0 0 (MQ below (wQv D (bW b0 b1 b2 a0 a1 a2 a3 cB cI n (wE L bk nm fc fd) fd fc op tn eb ec) A) [.ref b0, .int (nI bk), .int (nI nm)].toArray s 0 0 A) (F0 m 38 ls []) := by
    intro fu
    induction fu with
    | zero => intro k hk hf; omega
    | succ fu ih =>
      intro k hk hfu H locs hP hD hS ls hl
      refine lv_iload_n hx hb dX1_writeEntryBlock_38 rfl (lv_at hl 0 rfl) ?_
      refine lv_bipush (v := nI 60) hx hb dX1_writeEntryBlock_39 (by decide +kernel) ?_
      refine jb_ge (tgt := 66) hx hb (nI_toInt (n := 3 + k) (by omega)) (nI_toInt (n := 60) (by decide)) dX1_writeEntryBlock_41 (by decide) (fun c1 => ?_) (fun c1 => ?_)
      · skip
        have hk9 : k = 57 := by omega
        subst hk9
        refine lv_aload_n hx hb dX1_writeEntryBlock_66 rfl (lv_at hl 1 rfl) ?_
        refine va_get (D := D) (ci := 2) (v := .ref a0) (C := RX1) (T := TX1) (N := 7) hx hb hts hinX1 hown hK hP 0 rfl rfl 0 (by decide) (hts (.fieldLink RX1 28 "PuzzleBook" "store" "LPuzzleBook$Store;") (by decide +kernel)) (fun _ h9 => h9) rfl dX1_writeEntryBlock_67 ?_
        refine lv_iload_n hx hb dX1_writeEntryBlock_70 rfl (lv_at hl 2 rfl) ?_
        refine wr_V (wr := [(b0, .inr (2, [.ref a0, .ref b1, .int (nI fc), .int (nI op), .int (nI tn), .ref b2, .int (nI ec)])), (b1, .inl (cI, 48, .inl (aI fd))), (b2, .inl (cI, 40, .inl (aI eb)))]) (wo := (bW b0 b1 b2 a0 a1 a2 a3 cB cI n (wS (wN (w1 (w1 (w1 L (64 * bk + 0) (nm % 256)) (64 * bk + 1) (nm / 256)) (64 * bk + 2) fc) (64 * bk + 3) (bO fd fc) 57) (64 * bk)) fd fc op tn eb ec)) (As := [.int (nI bk)]) (rest := []) ⟨hx, hb, hml, hown, hts⟩ (c_X0_writeSum l D a0 a1 a2 a3 cB cI n (wN (w1 (w1 (w1 L (64 * bk + 0) (nm % 256)) (64 * bk + 1) (nm / 256)) (64 * bk + 2) fc) (64 * bk + 3) (bO fd fc) 57) bk H.size  hn (wN_lt (w1_lt (w1_lt (w1_lt hg (Nat.mod_lt _ (by decide))) (by omega)) (by omega)) (bO_lt (by decide) (fun k _ => hd k)) 57) h1 (by simp only [wN_c, w1_c]; omega)) (cwV 1 hts gX1_writeEntryBlock_X0_writeSum rfl rfl rfl (by decide +kernel) ⟨Nat.le_of_ble_eq_true rfl, Nat.le_of_ble_eq_true rfl⟩) hK hP hD hS hA [3, 4, 5, 6] [0, 1, 2] rfl rfl rfl rfl (by decide) [0, 1, 2, 3, 4, 5, 6] rfl rfl (ci := 1) rfl rfl (q0 := 3) rfl rfl hl.1 rfl (Nat.le_of_ble_eq_true rfl) dX1_writeEntryBlock_71 ⟨Nat.zero_le _, Nat.zero_le _⟩ (fun H locs hP hD hS => ?_)
        exact rt_v hx hb hr hlocks hP hD hS dX1_writeEntryBlock_74
      · skip
        refine lv_aload_n hx hb dX1_writeEntryBlock_44 rfl (lv_at hl 1 rfl) ?_
        refine va_get (D := D) (ci := 2) (v := .ref a0) (C := RX1) (T := TX1) (N := 7) hx hb hts hinX1 hown hK hP 0 rfl rfl 0 (by decide) (hts (.fieldLink RX1 28 "PuzzleBook" "store" "LPuzzleBook$Store;") (by decide +kernel)) (fun _ h9 => h9) rfl dX1_writeEntryBlock_45 ?_
        refine lv_iload_n hx hb dX1_writeEntryBlock_48 rfl (lv_at hl 2 rfl) ?_
        refine lv_iload_n hx hb dX1_writeEntryBlock_49 rfl (lv_at hl 0 rfl) ?_
        refine lv_aload_n hx hb dX1_writeEntryBlock_50 rfl (lv_at hl 1 rfl) ?_
        refine lv_iload_n hx hb dX1_writeEntryBlock_51 rfl (lv_at hl 0 rfl) ?_
        refine lv_iconst (v := nI 3) hx hb dX1_writeEntryBlock_52 (by decide +kernel) ?_
        refine lv_isub hx hb dX1_writeEntryBlock_53 ?_
        refine lv_as (y := nI ((3 + k) - 3)) (pk_sub (by omega)) ?_
        refine lv_as (y := nI k) (congrArg nI (by omega)) ?_
        refine rd_V (As := [.int (nI k)]) (rest := [.int (nI (3 + k)), .int (nI bk), .ref a0]) ⟨hx, hb, hml, hown, hts⟩ (c_X1_fedByte l D b0 b1 b2 a0 a1 a2 a3 cB cI n (wN (w1 (w1 (w1 L (64 * bk + 0) (nm % 256)) (64 * bk + 1) (nm / 256)) (64 * bk + 2) fc) (64 * bk + 3) (bO fd fc) k) fd fc op tn eb ec k hf (by omega)) (cwV 1 hts gX1_writeEntryBlock_X1_fedByte rfl rfl rfl (by decide +kernel) ⟨Nat.le_of_ble_eq_true rfl, Nat.le_of_ble_eq_true rfl⟩) hK hP [0, 1, 2, 3, 4, 5, 6] rfl (ci := 2) rfl rfl (q0 := 0) rfl rfl hl.1 rfl (Nat.le_of_ble_eq_true rfl) dX1_writeEntryBlock_54 ⟨Nat.zero_le _, Nat.zero_le _⟩ (fun r2 hr2 => ?_)
        subst hr2
        refine wr_V (wr := [(b0, .inr (2, [.ref a0, .ref b1, .int (nI fc), .int (nI op), .int (nI tn), .ref b2, .int (nI ec)])), (b1, .inl (cI, 48, .inl (aI fd))), (b2, .inl (cI, 40, .inl (aI eb)))]) (wo := (bW b0 b1 b2 a0 a1 a2 a3 cB cI n (w1 (wN (w1 (w1 (w1 L (64 * bk + 0) (nm % 256)) (64 * bk + 1) (nm / 256)) (64 * bk + 2) fc) (64 * bk + 3) (bO fd fc) k) (64 * bk + (3 + k)) (bO fd fc k)) fd fc op tn eb ec)) (As := [.int (nI bk), .int (nI (3 + k)), .int (nI (bO fd fc k))]) (rest := []) ⟨hx, hb, hml, hown, hts⟩ (c_X0_write l D a0 a1 a2 a3 cB cI n (wN (w1 (w1 (w1 L (64 * bk + 0) (nm % 256)) (64 * bk + 1) (nm / 256)) (64 * bk + 2) fc) (64 * bk + 3) (bO fd fc) k) bk (3 + k) (nI (bO fd fc k)) (bO fd fc k) H.size  hn h1 (by omega) (by simp only [wN_c, w1_c]; omega) rfl) (cwV 3 hts gX1_writeEntryBlock_X0_write rfl rfl rfl (by decide +kernel) ⟨Nat.le_of_ble_eq_true rfl, Nat.le_of_ble_eq_true rfl⟩) hK hP hD hS hA [3, 4, 5, 6] [0, 1, 2] rfl rfl rfl rfl (by decide) [0, 1, 2, 3, 4, 5, 6] rfl rfl (ci := 1) rfl rfl (q0 := 3) rfl rfl hl.1 rfl (Nat.le_of_ble_eq_true rfl) dX1_writeEntryBlock_57 ⟨Nat.zero_le _, Nat.zero_le _⟩ (fun H locs hP hD hS => ?_)
        have e9 : w1 (wN (w1 (w1 (w1 L (64 * bk + 0) (nm % 256)) (64 * bk + 1) (nm / 256)) (64 * bk + 2) fc) (64 * bk + 3) (bO fd fc) k) (64 * bk + (3 + k)) (bO fd fc k) = wN (w1 (w1 (w1 L (64 * bk + 0) (nm % 256)) (64 * bk + 1) (nm / 256)) (64 * bk + 2) fc) (64 * bk + 3) (bO fd fc) (k + 1) := by show w1 _ _ _ = w1 _ _ _; rw [show 64 * bk + (3 + k) = 64 * bk + 3 + k by omega]
        rw [e9] at hP hD
        refine lv_iinc (v := nI (3 + k + 1)) (lv' := [(3, .int (nI (3 + k + 1))), (0, .ref b0), (1, .int (nI bk)), (2, .int (nI nm))]) hx hb dX1_writeEntryBlock_60 hl (k := 0) rfl (nI_add _ 1) (by decide) rfl (fun ls hl => ?_)
        refine lv_goto (tgt := 38) hx hb dX1_writeEntryBlock_63 (by decide) ?_
        exact ih (k + 1) (by omega) (by omega) H locs hP hD hS ls (lv_sub hl [0, 1, 2, 3] rfl)
  refine lv_aload_n hx hb dX1_writeEntryBlock_0 rfl (lv_at hl 0 rfl) ?_
  refine va_get (D := D) (ci := 2) (v := .ref a0) (C := RX1) (T := TX1) (N := 7) hx hb hts hinX1 hown hK hP 0 rfl rfl 0 (by decide) (hts (.fieldLink RX1 28 "PuzzleBook" "store" "LPuzzleBook$Store;") (by decide +kernel)) (fun _ h9 => h9) rfl dX1_writeEntryBlock_1 ?_
  refine lv_iload_n hx hb dX1_writeEntryBlock_4 rfl (lv_at hl 1 rfl) ?_
  refine lv_iconst (v := nI 0) hx hb dX1_writeEntryBlock_5 (by decide +kernel) ?_
  refine lv_iload_n hx hb dX1_writeEntryBlock_6 rfl (lv_at hl 2 rfl) ?_
  refine wr_V (wr := [(b0, .inr (2, [.ref a0, .ref b1, .int (nI fc), .int (nI op), .int (nI tn), .ref b2, .int (nI ec)])), (b1, .inl (cI, 48, .inl (aI fd))), (b2, .inl (cI, 40, .inl (aI eb)))]) (wo := (bW b0 b1 b2 a0 a1 a2 a3 cB cI n (w1 L (64 * bk + 0) (nm % 256)) fd fc op tn eb ec)) (As := [.int (nI bk), .int (nI 0), .int (nI nm)]) (rest := []) ⟨hx, hb, hml, hown, hts⟩ (c_X0_write l D a0 a1 a2 a3 cB cI n L bk 0 (nI nm) (nm % 256) s.heap.size  hn h1 (by omega) (by omega) nI_b) (cwV 3 hts gX1_writeEntryBlock_X0_write rfl rfl rfl (by decide +kernel) ⟨Nat.le_of_ble_eq_true rfl, Nat.le_of_ble_eq_true rfl⟩) hK hP hD hS hA [3, 4, 5, 6] [0, 1, 2] rfl rfl rfl rfl (by decide) [0, 1, 2, 3, 4, 5, 6] rfl rfl (ci := 1) rfl rfl (q0 := 3) rfl rfl hl.1 rfl (Nat.le_of_ble_eq_true rfl) dX1_writeEntryBlock_7 ⟨Nat.zero_le _, Nat.zero_le _⟩ (fun H locs hP hD hS => ?_)
  refine lv_aload_n hx hb dX1_writeEntryBlock_10 rfl (lv_at hl 0 rfl) ?_
  refine va_get (D := D) (ci := 2) (v := .ref a0) (C := RX1) (T := TX1) (N := 7) hx hb hts hinX1 hown hK hP 0 rfl rfl 0 (by decide) (hts (.fieldLink RX1 28 "PuzzleBook" "store" "LPuzzleBook$Store;") (by decide +kernel)) (fun _ h9 => h9) rfl dX1_writeEntryBlock_11 ?_
  refine lv_iload_n hx hb dX1_writeEntryBlock_14 rfl (lv_at hl 1 rfl) ?_
  refine lv_iconst (v := nI 1) hx hb dX1_writeEntryBlock_15 (by decide +kernel) ?_
  refine lv_iload_n hx hb dX1_writeEntryBlock_16 rfl (lv_at hl 2 rfl) ?_
  refine lv_bipush (v := nI 8) hx hb dX1_writeEntryBlock_17 (by decide +kernel) ?_
  refine lv_ishr hx hb dX1_writeEntryBlock_19 ?_
  refine lv_as (y := nI (nm / 256)) (pk_shrN (by omega) _ 8 (by decide +kernel)) ?_
  refine wr_V (wr := [(b0, .inr (2, [.ref a0, .ref b1, .int (nI fc), .int (nI op), .int (nI tn), .ref b2, .int (nI ec)])), (b1, .inl (cI, 48, .inl (aI fd))), (b2, .inl (cI, 40, .inl (aI eb)))]) (wo := (bW b0 b1 b2 a0 a1 a2 a3 cB cI n (w1 (w1 L (64 * bk + 0) (nm % 256)) (64 * bk + 1) (nm / 256)) fd fc op tn eb ec)) (As := [.int (nI bk), .int (nI 1), .int (nI (nm / 256))]) (rest := []) ⟨hx, hb, hml, hown, hts⟩ (c_X0_write l D a0 a1 a2 a3 cB cI n (w1 L (64 * bk + 0) (nm % 256)) bk 1 (nI (nm / 256)) (nm / 256) H.size  hn h1 (by omega) (by simp only [w1_c]; omega) rfl) (cwV 3 hts gX1_writeEntryBlock_X0_write rfl rfl rfl (by decide +kernel) ⟨Nat.le_of_ble_eq_true rfl, Nat.le_of_ble_eq_true rfl⟩) hK hP hD hS hA [3, 4, 5, 6] [0, 1, 2] rfl rfl rfl rfl (by decide) [0, 1, 2, 3, 4, 5, 6] rfl rfl (ci := 1) rfl rfl (q0 := 3) rfl rfl hl.1 rfl (Nat.le_of_ble_eq_true rfl) dX1_writeEntryBlock_20 ⟨Nat.zero_le _, Nat.zero_le _⟩ (fun H locs hP hD hS => ?_)
  refine lv_aload_n hx hb dX1_writeEntryBlock_23 rfl (lv_at hl 0 rfl) ?_
  refine va_get (D := D) (ci := 2) (v := .ref a0) (C := RX1) (T := TX1) (N := 7) hx hb hts hinX1 hown hK hP 0 rfl rfl 0 (by decide) (hts (.fieldLink RX1 28 "PuzzleBook" "store" "LPuzzleBook$Store;") (by decide +kernel)) (fun _ h9 => h9) rfl dX1_writeEntryBlock_24 ?_
  refine lv_iload_n hx hb dX1_writeEntryBlock_27 rfl (lv_at hl 1 rfl) ?_
  refine lv_iconst (v := nI 2) hx hb dX1_writeEntryBlock_28 (by decide +kernel) ?_
  refine lv_aload_n hx hb dX1_writeEntryBlock_29 rfl (lv_at hl 0 rfl) ?_
  refine va_get (D := D) (ci := 2) (v := .int (nI fc)) (C := RX1) (T := TX1) (N := 7) hx hb hts hinX1 hown hK hP 0 rfl rfl 2 (by decide) (hts (.fieldLink RX1 13 "PuzzleBook" "fedCount" "I") (by decide +kernel)) (fun _ h9 => h9) rfl dX1_writeEntryBlock_30 ?_
  refine wr_V (wr := [(b0, .inr (2, [.ref a0, .ref b1, .int (nI fc), .int (nI op), .int (nI tn), .ref b2, .int (nI ec)])), (b1, .inl (cI, 48, .inl (aI fd))), (b2, .inl (cI, 40, .inl (aI eb)))]) (wo := (bW b0 b1 b2 a0 a1 a2 a3 cB cI n (w1 (w1 (w1 L (64 * bk + 0) (nm % 256)) (64 * bk + 1) (nm / 256)) (64 * bk + 2) fc) fd fc op tn eb ec)) (As := [.int (nI bk), .int (nI 2), .int (nI fc)]) (rest := []) ⟨hx, hb, hml, hown, hts⟩ (c_X0_write l D a0 a1 a2 a3 cB cI n (w1 (w1 L (64 * bk + 0) (nm % 256)) (64 * bk + 1) (nm / 256)) bk 2 (nI fc) fc H.size  hn h1 (by omega) (by simp only [w1_c]; omega) rfl) (cwV 3 hts gX1_writeEntryBlock_X0_write rfl rfl rfl (by decide +kernel) ⟨Nat.le_of_ble_eq_true rfl, Nat.le_of_ble_eq_true rfl⟩) hK hP hD hS hA [3, 4, 5, 6] [0, 1, 2] rfl rfl rfl rfl (by decide) [0, 1, 2, 3, 4, 5, 6] rfl rfl (ci := 1) rfl rfl (q0 := 3) rfl rfl hl.1 rfl (Nat.le_of_ble_eq_true rfl) dX1_writeEntryBlock_33 ⟨Nat.zero_le _, Nat.zero_le _⟩ (fun H locs hP hD hS => ?_)
  refine lv_iconst (v := nI 3) hx hb dX1_writeEntryBlock_36 (by decide +kernel) ?_
  refine lv_istore_n (lv' := [(3, .int (nI 3)), (0, .ref b0), (1, .int (nI bk)), (2, .int (nI nm))]) hx hb dX1_writeEntryBlock_37 rfl hl (by decide) rfl (fun ls hl => ?_)
  exact loop 58 0 (by omega) (by omega) H locs hP hD hS ls (lv_sub hl [0, 1, 2, 3] rfl)
set_option maxRecDepth 100000 in
set_option maxHeartbeats 4000000 in
/-- writeRootBlock(block) -/
theorem c_X1_writeRootBlock (l : Launch) (D : va_G) (b0 b1 b2 a0 a1 a2 a3 : Nat) (cB cI : ClassId) (n : Nat) (L : Lg) (fd : Nat → Nat) (fc : Nat) (op : Nat) (tn : Nat) (eb : Nat → Nat) (ec : Nat) (bk : Nat) (sz : Nat) (hn : n ≤ 64) (hg : ∀ j, L.1 j < 256) (he : ec ≤ 40) (hE : ∀ k, bO eb ec k < n) (h1 : bk < n) (hw : L.2.2.2 + 64 ≤ 129) : Met l yX1_writeRootBlock wsX1_writeRootBlock ({ frames := 4, cells := 0, slots := 0, locals := 91 }) (wP [.ref b0, .int (nI bk)] D (bW b0 b1 b2 a0 a1 a2 a3 cB cI n L fd fc op tn eb ec) (ty2 cB cI) sz) (wQv D (bW b0 b1 b2 a0 a1 a2 a3 cB cI n (wR L bk ec (bO eb ec)) fd fc op tn eb ec) (va_A (bW b0 b1 b2 a0 a1 a2 a3 cB cI n L fd fc op tn eb ec) sz)) 0 0 (va_A (bW b0 b1 b2 a0 a1 a2 a3 cB cI n L fd fc op tn eb ec) sz) := by
  refine met_w (by decide) rfl (Nat.le_of_ble_eq_true rfl) ?_
  intro p e s m below meth c hx hb hml hr hlocks hown hts hP hK A hD hA hS ls hl
  have hown : s.vm.findClass RX1 = some m.cls := hown
  have hinX1 : ∀ w ∈ u_ws RX1 TX1 7, w ∈ wsX1_writeRootBlock := by decide +kernel
  have hinX0 : ∀ w ∈ u_ws RX0 TX0 5, w ∈ wsX1_writeRootBlock := by decide +kernel
  have hl : lv_has ls 3 [(0, .ref b0), (1, .int (nI bk))] := hl
  have loop : ∀ (fu k : Nat), k ≤ 59 → 59 - k < fu → ∀ (H : Heap) (locs : List Loc), va_P D vwCl (bW b0 b1 b2 a0 a1 a2 a3 cB cI n (wN (w1 L (64 * bk + 0) ec) (64 * bk + 1) (bO eb ec) k) fd fc op tn eb ec) H → va_D A (bW b0 b1 b2 a0 a1 a2 a3 cB cI n (wN (w1 L (64 * bk + 0) ec) (64 * bk + 1) (bO eb ec) k) fd fc op tn eb ec) → va_S A s.heap H locs → ∀ ls : Array Slot, lv_has ls 3 [(2, .int (nI (1 + k))), (0, .ref b0), (1, .int (nI bk))] → W p l e ({ frames := 4, cells := 0, slots := 0, locals := 91 }) s m [.ref b0, .int (nI bk)].toArray below meth c H locs 0 0 (MQ below (wQv D (bW b0 b1 b2 a0 a1 a2 a3 cB cI n (wR L bk ec (bO eb ec)) fd fc op tn eb ec) A) [.ref b0, .int (nI bk)].toArray s 0 0 A) (F0 m 15 ls []) := by
    intro fu
    induction fu with
    | zero => intro k hk hf; omega
    | succ fu ih =>
      intro k hk hfu H locs hP hD hS ls hl
      refine lv_iload_n hx hb dX1_writeRootBlock_15 rfl (lv_at hl 0 rfl) ?_
      refine lv_bipush (v := nI 60) hx hb dX1_writeRootBlock_16 (by decide +kernel) ?_
      refine jb_ge (tgt := 43) hx hb (nI_toInt (n := 1 + k) (by omega)) (nI_toInt (n := 60) (by decide)) dX1_writeRootBlock_18 (by decide) (fun c1 => ?_) (fun c1 => ?_)
      · skip
        have hk9 : k = 59 := by omega
        subst hk9
        refine lv_aload_n hx hb dX1_writeRootBlock_43 rfl (lv_at hl 1 rfl) ?_
        refine va_get (D := D) (ci := 2) (v := .ref a0) (C := RX1) (T := TX1) (N := 7) hx hb hts hinX1 hown hK hP 0 rfl rfl 0 (by decide) (hts (.fieldLink RX1 28 "PuzzleBook" "store" "LPuzzleBook$Store;") (by decide +kernel)) (fun _ h9 => h9) rfl dX1_writeRootBlock_44 ?_
        refine lv_iload_n hx hb dX1_writeRootBlock_47 rfl (lv_at hl 2 rfl) ?_
        refine wr_V (wr := [(b0, .inr (2, [.ref a0, .ref b1, .int (nI fc), .int (nI op), .int (nI tn), .ref b2, .int (nI ec)])), (b1, .inl (cI, 48, .inl (aI fd))), (b2, .inl (cI, 40, .inl (aI eb)))]) (wo := (bW b0 b1 b2 a0 a1 a2 a3 cB cI n (wS (wN (w1 L (64 * bk + 0) ec) (64 * bk + 1) (bO eb ec) 59) (64 * bk)) fd fc op tn eb ec)) (As := [.int (nI bk)]) (rest := []) ⟨hx, hb, hml, hown, hts⟩ (c_X0_writeSum l D a0 a1 a2 a3 cB cI n (wN (w1 L (64 * bk + 0) ec) (64 * bk + 1) (bO eb ec) 59) bk H.size  hn (wN_lt (w1_lt hg (by omega)) (fun k => Nat.lt_of_lt_of_le (hE k) (by omega)) 59) h1 (by simp only [wN_c, w1_c]; omega)) (cwV 1 hts gX1_writeRootBlock_X0_writeSum rfl rfl rfl (by decide +kernel) ⟨Nat.le_of_ble_eq_true rfl, Nat.le_of_ble_eq_true rfl⟩) hK hP hD hS hA [3, 4, 5, 6] [0, 1, 2] rfl rfl rfl rfl (by decide) [0, 1, 2, 3, 4, 5, 6] rfl rfl (ci := 1) rfl rfl (q0 := 3) rfl rfl hl.1 rfl (Nat.le_of_ble_eq_true rfl) dX1_writeRootBlock_48 ⟨Nat.zero_le _, Nat.zero_le _⟩ (fun H locs hP hD hS => ?_)
        exact rt_v hx hb hr hlocks hP hD hS dX1_writeRootBlock_51
      · skip
        refine lv_aload_n hx hb dX1_writeRootBlock_21 rfl (lv_at hl 1 rfl) ?_
        refine va_get (D := D) (ci := 2) (v := .ref a0) (C := RX1) (T := TX1) (N := 7) hx hb hts hinX1 hown hK hP 0 rfl rfl 0 (by decide) (hts (.fieldLink RX1 28 "PuzzleBook" "store" "LPuzzleBook$Store;") (by decide +kernel)) (fun _ h9 => h9) rfl dX1_writeRootBlock_22 ?_
        refine lv_iload_n hx hb dX1_writeRootBlock_25 rfl (lv_at hl 2 rfl) ?_
        refine lv_iload_n hx hb dX1_writeRootBlock_26 rfl (lv_at hl 0 rfl) ?_
        refine lv_aload_n hx hb dX1_writeRootBlock_27 rfl (lv_at hl 1 rfl) ?_
        refine lv_iload_n hx hb dX1_writeRootBlock_28 rfl (lv_at hl 0 rfl) ?_
        refine lv_iconst (v := nI 1) hx hb dX1_writeRootBlock_29 (by decide +kernel) ?_
        refine lv_isub hx hb dX1_writeRootBlock_30 ?_
        refine lv_as (y := nI ((1 + k) - 1)) (pk_sub (by omega)) ?_
        refine lv_as (y := nI k) (congrArg nI (by omega)) ?_
        refine rd_V (As := [.int (nI k)]) (rest := [.int (nI (1 + k)), .int (nI bk), .ref a0]) ⟨hx, hb, hml, hown, hts⟩ (c_X1_blockOf l D b0 b1 b2 a0 a1 a2 a3 cB cI n (wN (w1 L (64 * bk + 0) ec) (64 * bk + 1) (bO eb ec) k) fd fc op tn eb ec k he (by omega)) (cwV 1 hts gX1_writeRootBlock_X1_blockOf rfl rfl rfl (by decide +kernel) ⟨Nat.le_of_ble_eq_true rfl, Nat.le_of_ble_eq_true rfl⟩) hK hP [0, 1, 2, 3, 4, 5, 6] rfl (ci := 2) rfl rfl (q0 := 0) rfl rfl hl.1 rfl (Nat.le_of_ble_eq_true rfl) dX1_writeRootBlock_31 ⟨Nat.zero_le _, Nat.zero_le _⟩ (fun r2 hr2 => ?_)
        subst hr2
        refine wr_V (wr := [(b0, .inr (2, [.ref a0, .ref b1, .int (nI fc), .int (nI op), .int (nI tn), .ref b2, .int (nI ec)])), (b1, .inl (cI, 48, .inl (aI fd))), (b2, .inl (cI, 40, .inl (aI eb)))]) (wo := (bW b0 b1 b2 a0 a1 a2 a3 cB cI n (w1 (wN (w1 L (64 * bk + 0) ec) (64 * bk + 1) (bO eb ec) k) (64 * bk + (1 + k)) (bO eb ec k)) fd fc op tn eb ec)) (As := [.int (nI bk), .int (nI (1 + k)), .int (nI (bO eb ec k))]) (rest := []) ⟨hx, hb, hml, hown, hts⟩ (c_X0_write l D a0 a1 a2 a3 cB cI n (wN (w1 L (64 * bk + 0) ec) (64 * bk + 1) (bO eb ec) k) bk (1 + k) (nI (bO eb ec k)) (bO eb ec k) H.size  hn h1 (by omega) (by simp only [wN_c, w1_c]; omega) rfl) (cwV 3 hts gX1_writeRootBlock_X0_write rfl rfl rfl (by decide +kernel) ⟨Nat.le_of_ble_eq_true rfl, Nat.le_of_ble_eq_true rfl⟩) hK hP hD hS hA [3, 4, 5, 6] [0, 1, 2] rfl rfl rfl rfl (by decide) [0, 1, 2, 3, 4, 5, 6] rfl rfl (ci := 1) rfl rfl (q0 := 3) rfl rfl hl.1 rfl (Nat.le_of_ble_eq_true rfl) dX1_writeRootBlock_34 ⟨Nat.zero_le _, Nat.zero_le _⟩ (fun H locs hP hD hS => ?_)
        have e9 : w1 (wN (w1 L (64 * bk + 0) ec) (64 * bk + 1) (bO eb ec) k) (64 * bk + (1 + k)) (bO eb ec k) = wN (w1 L (64 * bk + 0) ec) (64 * bk + 1) (bO eb ec) (k + 1) := by show w1 _ _ _ = w1 _ _ _; rw [show 64 * bk + (1 + k) = 64 * bk + 1 + k by omega]
        rw [e9] at hP hD
        refine lv_iinc (v := nI (1 + k + 1)) (lv' := [(2, .int (nI (1 + k + 1))), (0, .ref b0), (1, .int (nI bk))]) hx hb dX1_writeRootBlock_37 hl (k := 0) rfl (nI_add _ 1) (by decide) rfl (fun ls hl => ?_)
        refine lv_goto (tgt := 15) hx hb dX1_writeRootBlock_40 (by decide) ?_
        exact ih (k + 1) (by omega) (by omega) H locs hP hD hS ls (lv_sub hl [0, 1, 2] rfl)
  refine lv_aload_n hx hb dX1_writeRootBlock_0 rfl (lv_at hl 0 rfl) ?_
  refine va_get (D := D) (ci := 2) (v := .ref a0) (C := RX1) (T := TX1) (N := 7) hx hb hts hinX1 hown hK hP 0 rfl rfl 0 (by decide) (hts (.fieldLink RX1 28 "PuzzleBook" "store" "LPuzzleBook$Store;") (by decide +kernel)) (fun _ h9 => h9) rfl dX1_writeRootBlock_1 ?_
  refine lv_iload_n hx hb dX1_writeRootBlock_4 rfl (lv_at hl 1 rfl) ?_
  refine lv_iconst (v := nI 0) hx hb dX1_writeRootBlock_5 (by decide +kernel) ?_
  refine lv_aload_n hx hb dX1_writeRootBlock_6 rfl (lv_at hl 0 rfl) ?_
  refine va_get (D := D) (ci := 2) (v := .int (nI ec)) (C := RX1) (T := TX1) (N := 7) hx hb hts hinX1 hown hK hP 0 rfl rfl 6 (by decide) (hts (.fieldLink RX1 20 "PuzzleBook" "entryCount" "I") (by decide +kernel)) (fun _ h9 => h9) rfl dX1_writeRootBlock_7 ?_
  refine wr_V (wr := [(b0, .inr (2, [.ref a0, .ref b1, .int (nI fc), .int (nI op), .int (nI tn), .ref b2, .int (nI ec)])), (b1, .inl (cI, 48, .inl (aI fd))), (b2, .inl (cI, 40, .inl (aI eb)))]) (wo := (bW b0 b1 b2 a0 a1 a2 a3 cB cI n (w1 L (64 * bk + 0) ec) fd fc op tn eb ec)) (As := [.int (nI bk), .int (nI 0), .int (nI ec)]) (rest := []) ⟨hx, hb, hml, hown, hts⟩ (c_X0_write l D a0 a1 a2 a3 cB cI n L bk 0 (nI ec) ec s.heap.size  hn h1 (by omega) (by omega) rfl) (cwV 3 hts gX1_writeRootBlock_X0_write rfl rfl rfl (by decide +kernel) ⟨Nat.le_of_ble_eq_true rfl, Nat.le_of_ble_eq_true rfl⟩) hK hP hD hS hA [3, 4, 5, 6] [0, 1, 2] rfl rfl rfl rfl (by decide) [0, 1, 2, 3, 4, 5, 6] rfl rfl (ci := 1) rfl rfl (q0 := 3) rfl rfl hl.1 rfl (Nat.le_of_ble_eq_true rfl) dX1_writeRootBlock_10 ⟨Nat.zero_le _, Nat.zero_le _⟩ (fun H locs hP hD hS => ?_)
  refine lv_iconst (v := nI 1) hx hb dX1_writeRootBlock_13 (by decide +kernel) ?_
  refine lv_istore_n (lv' := [(2, .int (nI 1)), (0, .ref b0), (1, .int (nI bk))]) hx hb dX1_writeRootBlock_14 rfl hl (by decide) rfl (fun ls hl => ?_)
  exact loop 60 0 (by omega) (by omega) H locs hP hD hS ls (lv_sub hl [0, 1, 2] rfl)
set_option maxRecDepth 100000 in
set_option maxHeartbeats 4000000 in
/-- writeOtherRootAndTurn() -/
theorem c_X1_writeOtherRootAndTurn (l : Launch) (D : va_G) (b0 b1 b2 a0 a1 a2 a3 : Nat) (cB cI : ClassId) (n : Nat) (L : Lg) (fd : Nat → Nat) (fc : Nat) (op : Nat) (tn : Nat) (eb : Nat → Nat) (ec : Nat)  (sz : Nat) (hn0 : 4 ≤ n) (hn : n ≤ 64) (hg : ∀ j, L.1 j < 256) (he : ec ≤ 40) (hE : ∀ k, bO eb ec k < n) (ht : tn = 1 ∨ tn = 2) (hw : L.2.2.2 + 65 ≤ 129) : Met l yX1_writeOtherRootAndTurn wsX1_writeOtherRootAndTurn ({ frames := 5, cells := 0, slots := 0, locals := 113 }) (wP [.ref b0] D (bW b0 b1 b2 a0 a1 a2 a3 cB cI n L fd fc op tn eb ec) (ty2 cB cI) sz) (wQv D (bW b0 b1 b2 a0 a1 a2 a3 cB cI n (w1 (wR L (3 - tn) ec (bO eb ec)) (64 * 0 + 0) (3 - tn)) fd fc op (3 - tn) eb ec) (va_A (bW b0 b1 b2 a0 a1 a2 a3 cB cI n L fd fc op tn eb ec) sz)) 0 0 (va_A (bW b0 b1 b2 a0 a1 a2 a3 cB cI n L fd fc op tn eb ec) sz) := by
  refine met_w (by decide) rfl (Nat.le_of_ble_eq_true rfl) ?_
  intro p e s m below meth c hx hb hml hr hlocks hown hts hP hK A hD hA hS ls hl
  have hown : s.vm.findClass RX1 = some m.cls := hown
  have hinX1 : ∀ w ∈ u_ws RX1 TX1 7, w ∈ wsX1_writeOtherRootAndTurn := by decide +kernel
  have hinX0 : ∀ w ∈ u_ws RX0 TX0 5, w ∈ wsX1_writeOtherRootAndTurn := by decide +kernel
  have hl : lv_has ls 2 [(0, .ref b0)] := hl
  refine lv_aload_n hx hb dX1_writeOtherRootAndTurn_0 rfl (lv_at hl 0 rfl) ?_
  refine va_get (D := D) (ci := 2) (v := .int (nI tn)) (C := RX1) (T := TX1) (N := 7) hx hb hts hinX1 hown hK hP 0 rfl rfl 4 (by decide) (hts (.fieldLink RX1 32 "PuzzleBook" "turn" "I") (by decide +kernel)) (fun _ h9 => h9) rfl dX1_writeOtherRootAndTurn_1 ?_
  refine lv_iconst (v := nI 1) hx hb dX1_writeOtherRootAndTurn_4 (by decide +kernel) ?_
  refine jb_ne (tgt := 12) hx hb (nI_toInt (n := tn) (by omega)) (nI_toInt (n := 1) (by decide)) dX1_writeOtherRootAndTurn_5 (by decide) (fun c1 => ?_) (fun c1 => ?_)
  · skip
    have hk9 : tn = 2 := by omega
    subst hk9
    refine lv_iconst (v := nI 1) hx hb dX1_writeOtherRootAndTurn_12 (by decide +kernel) ?_
    refine lv_istore_n (lv' := [(1, .int (nI 1)), (0, .ref b0)]) hx hb dX1_writeOtherRootAndTurn_13 rfl hl (by decide) rfl (fun ls hl => ?_)
    refine lv_aload_n hx hb dX1_writeOtherRootAndTurn_14 rfl (lv_at hl 1 rfl) ?_
    refine lv_iload_n hx hb dX1_writeOtherRootAndTurn_15 rfl (lv_at hl 0 rfl) ?_
    refine wr_V (wr := []) (wo := (bW b0 b1 b2 a0 a1 a2 a3 cB cI n (wR L 1 ec (bO eb ec)) fd fc op 2 eb ec)) (As := [.int (nI 1)]) (rest := []) ⟨hx, hb, hml, hown, hts⟩ (c_X1_writeRootBlock l D b0 b1 b2 a0 a1 a2 a3 cB cI n L fd fc op 2 eb ec 1 s.heap.size  hn hg he hE (by omega) (by omega)) (cwV 1 hts gX1_writeOtherRootAndTurn_X1_writeRootBlock rfl rfl rfl (by decide +kernel) ⟨Nat.le_of_ble_eq_true rfl, Nat.le_of_ble_eq_true rfl⟩) hK hP hD hS hA [0, 1, 2, 3, 4, 5, 6] [] rfl rfl rfl rfl (by decide) [0, 1, 2, 3, 4, 5, 6] rfl rfl (ci := 2) rfl rfl (q0 := 0) rfl rfl hl.1 rfl (Nat.le_of_ble_eq_true rfl) dX1_writeOtherRootAndTurn_16 ⟨Nat.zero_le _, Nat.zero_le _⟩ (fun H locs hP hD hS => ?_)
    refine lv_aload_n hx hb dX1_writeOtherRootAndTurn_19 rfl (lv_at hl 1 rfl) ?_
    refine va_get (D := D) (ci := 2) (v := .ref a0) (C := RX1) (T := TX1) (N := 7) hx hb hts hinX1 hown hK hP 0 rfl rfl 0 (by decide) (hts (.fieldLink RX1 28 "PuzzleBook" "store" "LPuzzleBook$Store;") (by decide +kernel)) (fun _ h9 => h9) rfl dX1_writeOtherRootAndTurn_20 ?_
    refine lv_iconst (v := nI 0) hx hb dX1_writeOtherRootAndTurn_23 (by decide +kernel) ?_
    refine lv_iconst (v := nI 0) hx hb dX1_writeOtherRootAndTurn_24 (by decide +kernel) ?_
    refine lv_iload_n hx hb dX1_writeOtherRootAndTurn_25 rfl (lv_at hl 0 rfl) ?_
    refine wr_V (wr := [(b0, .inr (2, [.ref a0, .ref b1, .int (nI fc), .int (nI op), .int (nI 2), .ref b2, .int (nI ec)])), (b1, .inl (cI, 48, .inl (aI fd))), (b2, .inl (cI, 40, .inl (aI eb)))]) (wo := (bW b0 b1 b2 a0 a1 a2 a3 cB cI n (w1 (wR L 1 ec (bO eb ec)) (64 * 0 + 0) 1) fd fc op 2 eb ec)) (As := [.int (nI 0), .int (nI 0), .int (nI 1)]) (rest := []) ⟨hx, hb, hml, hown, hts⟩ (c_X0_write l D a0 a1 a2 a3 cB cI n (wR L 1 ec (bO eb ec)) 0 0 (nI 1) 1 H.size  hn (by omega) (by decide) (by rw [wR_c]; omega) rfl) (cwV 3 hts gX1_writeOtherRootAndTurn_X0_write rfl rfl rfl (by decide +kernel) ⟨Nat.le_of_ble_eq_true rfl, Nat.le_of_ble_eq_true rfl⟩) hK hP hD hS hA [3, 4, 5, 6] [0, 1, 2] rfl rfl rfl rfl (by decide) [0, 1, 2, 3, 4, 5, 6] rfl rfl (ci := 1) rfl rfl (q0 := 3) rfl rfl hl.1 rfl (Nat.le_of_ble_eq_true rfl) dX1_writeOtherRootAndTurn_26 ⟨Nat.zero_le _, Nat.zero_le _⟩ (fun H locs hP hD hS => ?_)
    refine lv_aload_n hx hb dX1_writeOtherRootAndTurn_29 rfl (lv_at hl 1 rfl) ?_
    refine lv_iload_n hx hb dX1_writeOtherRootAndTurn_30 rfl (lv_at hl 0 rfl) ?_
    refine va_put (D := D) (ci := 2) (v := .int (nI 1)) (ty := .int) (C := RX1) (T := TX1) (N := 7) hx hb hts hinX1 tyX1 tyX1_ok nmX1 hown hK hP hD hS 0 rfl rfl 4 (by decide) (hts (.fieldLink RX1 32 "PuzzleBook" "turn" "I") (by decide +kernel)) (fun _ h9 => h9) rfl (by decide +kernel) rfl rfl (Nat.le_of_ble_eq_true rfl) dX1_writeOtherRootAndTurn_31 (fun H locs hP hD hS => ?_)
    have hP : va_P D vwCl (bW b0 b1 b2 a0 a1 a2 a3 cB cI n (w1 (wR L 1 ec (bO eb ec)) (64 * 0 + 0) 1) fd fc op 1 eb ec) H := hP
    have hD : va_D A (bW b0 b1 b2 a0 a1 a2 a3 cB cI n (w1 (wR L 1 ec (bO eb ec)) (64 * 0 + 0) 1) fd fc op 1 eb ec) := hD
    exact rt_v hx hb hr hlocks hP hD hS dX1_writeOtherRootAndTurn_34
  · skip
    have hk9 : tn = 1 := by omega
    subst hk9
    refine lv_iconst (v := nI 2) hx hb dX1_writeOtherRootAndTurn_8 (by decide +kernel) ?_
    refine lv_goto (tgt := 13) hx hb dX1_writeOtherRootAndTurn_9 (by decide) ?_
    refine lv_istore_n (lv' := [(1, .int (nI 2)), (0, .ref b0)]) hx hb dX1_writeOtherRootAndTurn_13 rfl hl (by decide) rfl (fun ls hl => ?_)
    refine lv_aload_n hx hb dX1_writeOtherRootAndTurn_14 rfl (lv_at hl 1 rfl) ?_
    refine lv_iload_n hx hb dX1_writeOtherRootAndTurn_15 rfl (lv_at hl 0 rfl) ?_
    refine wr_V (wr := []) (wo := (bW b0 b1 b2 a0 a1 a2 a3 cB cI n (wR L 2 ec (bO eb ec)) fd fc op 1 eb ec)) (As := [.int (nI 2)]) (rest := []) ⟨hx, hb, hml, hown, hts⟩ (c_X1_writeRootBlock l D b0 b1 b2 a0 a1 a2 a3 cB cI n L fd fc op 1 eb ec 2 s.heap.size  hn hg he hE (by omega) (by omega)) (cwV 1 hts gX1_writeOtherRootAndTurn_X1_writeRootBlock rfl rfl rfl (by decide +kernel) ⟨Nat.le_of_ble_eq_true rfl, Nat.le_of_ble_eq_true rfl⟩) hK hP hD hS hA [0, 1, 2, 3, 4, 5, 6] [] rfl rfl rfl rfl (by decide) [0, 1, 2, 3, 4, 5, 6] rfl rfl (ci := 2) rfl rfl (q0 := 0) rfl rfl hl.1 rfl (Nat.le_of_ble_eq_true rfl) dX1_writeOtherRootAndTurn_16 ⟨Nat.zero_le _, Nat.zero_le _⟩ (fun H locs hP hD hS => ?_)
    refine lv_aload_n hx hb dX1_writeOtherRootAndTurn_19 rfl (lv_at hl 1 rfl) ?_
    refine va_get (D := D) (ci := 2) (v := .ref a0) (C := RX1) (T := TX1) (N := 7) hx hb hts hinX1 hown hK hP 0 rfl rfl 0 (by decide) (hts (.fieldLink RX1 28 "PuzzleBook" "store" "LPuzzleBook$Store;") (by decide +kernel)) (fun _ h9 => h9) rfl dX1_writeOtherRootAndTurn_20 ?_
    refine lv_iconst (v := nI 0) hx hb dX1_writeOtherRootAndTurn_23 (by decide +kernel) ?_
    refine lv_iconst (v := nI 0) hx hb dX1_writeOtherRootAndTurn_24 (by decide +kernel) ?_
    refine lv_iload_n hx hb dX1_writeOtherRootAndTurn_25 rfl (lv_at hl 0 rfl) ?_
    refine wr_V (wr := [(b0, .inr (2, [.ref a0, .ref b1, .int (nI fc), .int (nI op), .int (nI 1), .ref b2, .int (nI ec)])), (b1, .inl (cI, 48, .inl (aI fd))), (b2, .inl (cI, 40, .inl (aI eb)))]) (wo := (bW b0 b1 b2 a0 a1 a2 a3 cB cI n (w1 (wR L 2 ec (bO eb ec)) (64 * 0 + 0) 2) fd fc op 1 eb ec)) (As := [.int (nI 0), .int (nI 0), .int (nI 2)]) (rest := []) ⟨hx, hb, hml, hown, hts⟩ (c_X0_write l D a0 a1 a2 a3 cB cI n (wR L 2 ec (bO eb ec)) 0 0 (nI 2) 2 H.size  hn (by omega) (by decide) (by rw [wR_c]; omega) rfl) (cwV 3 hts gX1_writeOtherRootAndTurn_X0_write rfl rfl rfl (by decide +kernel) ⟨Nat.le_of_ble_eq_true rfl, Nat.le_of_ble_eq_true rfl⟩) hK hP hD hS hA [3, 4, 5, 6] [0, 1, 2] rfl rfl rfl rfl (by decide) [0, 1, 2, 3, 4, 5, 6] rfl rfl (ci := 1) rfl rfl (q0 := 3) rfl rfl hl.1 rfl (Nat.le_of_ble_eq_true rfl) dX1_writeOtherRootAndTurn_26 ⟨Nat.zero_le _, Nat.zero_le _⟩ (fun H locs hP hD hS => ?_)
    refine lv_aload_n hx hb dX1_writeOtherRootAndTurn_29 rfl (lv_at hl 1 rfl) ?_
    refine lv_iload_n hx hb dX1_writeOtherRootAndTurn_30 rfl (lv_at hl 0 rfl) ?_
    refine va_put (D := D) (ci := 2) (v := .int (nI 2)) (ty := .int) (C := RX1) (T := TX1) (N := 7) hx hb hts hinX1 tyX1 tyX1_ok nmX1 hown hK hP hD hS 0 rfl rfl 4 (by decide) (hts (.fieldLink RX1 32 "PuzzleBook" "turn" "I") (by decide +kernel)) (fun _ h9 => h9) rfl (by decide +kernel) rfl rfl (Nat.le_of_ble_eq_true rfl) dX1_writeOtherRootAndTurn_31 (fun H locs hP hD hS => ?_)
    have hP : va_P D vwCl (bW b0 b1 b2 a0 a1 a2 a3 cB cI n (w1 (wR L 2 ec (bO eb ec)) (64 * 0 + 0) 2) fd fc op 2 eb ec) H := hP
    have hD : va_D A (bW b0 b1 b2 a0 a1 a2 a3 cB cI n (w1 (wR L 2 ec (bO eb ec)) (64 * 0 + 0) 2) fd fc op 2 eb ec) := hD
    exact rt_v hx hb hr hlocks hP hD hS dX1_writeOtherRootAndTurn_34
