/-! 11: PuzzleBookModel, its calls (laid by wip/whole/gen/gen_mapi.py) -/
/-- the bytes when the last j writes are undone, the last first -/
def unD (L : Lg) : Nat → Nat → Nat
  | 0 => L.1
  | j + 1 => va_up (unD L j) (L.2.1 (L.2.2.2 - 1 - j)) (L.2.2.1 (L.2.2.2 - 1 - j))
theorem unD_s {L : Lg} {t : Nat} (h : 0 < t) (h2 : t ≤ L.2.2.2) : unD L (L.2.2.2 - (t - 1)) = va_up (unD L (L.2.2.2 - t)) (L.2.1 (t - 1)) (L.2.2.1 (t - 1)) := by
  rw [show L.2.2.2 - (t - 1) = L.2.2.2 - t + 1 by omega]
  show va_up _ _ _ = _
  rw [show L.2.2.2 - 1 - (L.2.2.2 - t) = t - 1 by omega]
def mcF (L : Lg) (op : Nat) (kz : Int) : Lg × Nat × Int32 := if op ≠ 0 ∧ L.2.2.2 ≠ 0 ∧ 0 ≤ kz ∧ kz ≤ (L.2.2.2 : Int) then ((unD L (L.2.2.2 - kz.toNat), L.2.1, L.2.2.1, L.2.2.2), 0, nI 1) else (L, op, nI 0)
noncomputable def qm_bad (g E : Nat → Nat) (op tn ec n : Nat) : Int32 := if op = 0 then -1 else @ite Int32 (okS g (64 * tn)) (Classical.propDecidable _) (if fN (fun j => tk E ec (3 + j) ∧ ¬ okS g (64 * (3 + j))) (n - 3) < n - 3 then nI (3 + fN (fun j => tk E ec (3 + j) ∧ ¬ okS g (64 * (3 + j))) (n - 3)) else -1) (nI tn)
/-- reopen: open or not, the turn, the entries, how many, the answer -/
noncomputable def rmF (g : Nat → Nat) (n tn : Nat) (eb : Nat → Nat) (ec : Nat) : Nat × Nat × (Nat → Nat) × Nat × Int32 :=
  @ite _ (t12 g) (Classical.propDecidable _) (@ite _ (rdO g (g 0) n) (Classical.propDecidable _) (if lwN (wrE g) (fun k => g (64 * g 0 + (1 + k))) (g (64 * g 0)) < 1000 then (0, tn, eb, ec, -1 - nI (lwN (wrE g) (fun k => g (64 * g 0 + (1 + k))) (g (64 * g 0)))) else (1, g 0, cpE g (g 0) eb (g (64 * g 0)), g (64 * g 0), nI (g (64 * g 0)))) (0, tn, eb, ec, -1 - nI (g 0))) (0, tn, eb, ec, -1)
theorem rmF_n {g : Nat → Nat} {n tn ec : Nat} {eb : Nat → Nat} (h : ¬ t12 g) : rmF g n tn eb ec = (0, tn, eb, ec, -1) := if_neg h
theorem rmF_r {g : Nat → Nat} {n tn ec : Nat} {eb : Nat → Nat} (h : t12 g) (h2 : ¬ rdO g (g 0) n) : rmF g n tn eb ec = (0, tn, eb, ec, -1 - nI (g 0)) := (if_pos h).trans (if_neg h2)
theorem rmF_e {g : Nat → Nat} {n tn ec : Nat} {eb : Nat → Nat} (h : t12 g) (h2 : rdO g (g 0) n) (h3 : lwN (wrE g) (fun k => g (64 * g 0 + (1 + k))) (g (64 * g 0)) < 1000) : rmF g n tn eb ec = (0, tn, eb, ec, -1 - nI (lwN (wrE g) (fun k => g (64 * g 0 + (1 + k))) (g (64 * g 0)))) := (if_pos h).trans ((if_pos h2).trans (if_pos h3))
theorem rmF_o {g : Nat → Nat} {n tn ec : Nat} {eb : Nat → Nat} (h : t12 g) (h2 : rdO g (g 0) n) (h3 : ¬ lwN (wrE g) (fun k => g (64 * g 0 + (1 + k))) (g (64 * g 0)) < 1000) : rmF g n tn eb ec = (1, g 0, cpE g (g 0) eb (g (64 * g 0)), g (64 * g 0), nI (g (64 * g 0))) := (if_pos h).trans ((if_pos h2).trans (if_neg h3))
set_option maxRecDepth 100000 in
set_option maxHeartbeats 4000000 in
/-- rootIsRight(b) -/
theorem c_X2_rootIsRight (l : Launch) (D : va_G) (m0 m1 m2 m3 m4 m5 : Nat) (cB cI : ClassId) (n : Nat) (L : Lg) (fd : Nat → Nat) (fc : Nat) (op : Nat) (tn : Nat) (eb : Nat → Nat) (ec : Nat) (th : Nat) (bk : Nat) (hn : n ≤ 64) (hg : ∀ j, L.1 j < 256) (h1 : bk < 64) : Met l yX2_rootIsRight wsX2_rootIsRight ({ frames := 2, cells := 0, slots := 0, locals := 46 }) (rP [.ref m0, .int (nI bk)] D (mW m0 m1 m2 m3 m4 m5 cB cI n L fd fc op tn eb ec th) (ty2 cB cI)) (vp_Si (fun r => r = nI (b01 (rdO L.1 bk n)))) 0 0 (fun _ => False) := by
  refine met_r (by decide) rfl (Nat.le_of_ble_eq_true rfl) ?_
  intro p e s m below meth c hx hb hml hr hlocks hown hts hP hK ls hl
  have hown : s.vm.findClass RX2 = some m.cls := hown
  have hinX2 : ∀ w ∈ u_ws RX2 TX2 12, w ∈ wsX2_rootIsRight := by decide +kernel
  have hl : lv_has ls 6 [(0, .ref m0), (1, .int (nI bk))] := hl
  have g0 := hg (64 * bk)
  refine lv_aload_n hx hb dX2_rootIsRight_0 rfl (lv_at hl 0 rfl) ?_
  refine va_get (D := D) (ci := 3) (v := .ref m1) (C := RX2) (T := TX2) (N := 12) hx hb hts hinX2 hown hK hP 0 rfl rfl 1 (by decide) (hts (.fieldLink RX2 7 "PuzzleBookModel" "store" "[I") (by decide +kernel)) (fun _ h9 => h9) rfl dX2_rootIsRight_1 ?_
  refine lv_bipush (v := nI 64) hx hb dX2_rootIsRight_4 (by decide +kernel) ?_
  refine lv_iload_n hx hb dX2_rootIsRight_6 rfl (lv_at hl 1 rfl) ?_
  refine lv_imul hx hb dX2_rootIsRight_7 ?_
  refine lv_as (y := nI (64 * bk)) (pk_mul _ _) ?_
  refine ld_i (f := L.1) (k := 64 * bk) hx hb hK hP 1 1 rfl rfl (by omega) (by decide) dX2_rootIsRight_8 ?_
  refine lv_istore_n (lv' := [(2, .int (nI (L.1 (64 * bk)))), (0, .ref m0), (1, .int (nI bk))]) hx hb dX2_rootIsRight_9 rfl hl (by decide) rfl (fun ls hl => ?_)
  refine lv_aload_n hx hb dX2_rootIsRight_10 rfl (lv_at hl 1 rfl) ?_
  refine lv_iload_n hx hb dX2_rootIsRight_11 rfl (lv_at hl 2 rfl) ?_
  refine rd_V (As := [.int (nI bk)]) (rest := []) ⟨hx, hb, hml, hown, hts⟩ (c_X2_isRight l D m0 m1 m2 m3 m4 m5 cB cI n L fd fc op tn eb ec th bk hg h1) (cwV 1 hts gX2_rootIsRight_X2_isRight rfl rfl rfl (by decide +kernel) ⟨Nat.le_of_ble_eq_true rfl, Nat.le_of_ble_eq_true rfl⟩) hK hP [0, 1, 2, 3, 4, 5] rfl (ci := 3) rfl rfl (q0 := 0) rfl rfl hl.1 rfl (Nat.le_of_ble_eq_true rfl) dX2_rootIsRight_12 ⟨Nat.zero_le _, Nat.zero_le _⟩ (fun r1 hr1 => ?_)
  subst hr1
  by_cases q2 : (okS L.1 (64 * bk))
  · skip
    refine lv_as (y := nI 1) (congrArg nI (b01_t q2)) ?_
    refine j0_eq (tgt := 24) hx hb (nI_toInt (n := 1) (by decide)) dX2_rootIsRight_15 (by decide) (fun c3 => absurd c3 (by omega)) (fun c3 => ?_)
    refine lv_iload_n hx hb dX2_rootIsRight_18 rfl (lv_at hl 0 rfl) ?_
    refine lv_bipush (v := nI 40) hx hb dX2_rootIsRight_19 (by decide +kernel) ?_
    refine jb_le (tgt := 26) hx hb (nI_toInt (n := L.1 (64 * bk)) (by omega)) (nI_toInt (n := 40) (by decide)) dX2_rootIsRight_21 (by decide) (fun c4 => ?_) (fun c4 => ?_)
    · skip
      have loop : ∀ (fu k : Nat), k ≤ L.1 (64 * bk) → L.1 (64 * bk) - k < fu → (∀ j, j < k → ¬ badK L.1 bk n j) → ∀ ls : Array Slot, lv_has ls 6 [(3, .int (nI (1 + k))), (2, .int (nI (L.1 (64 * bk)))), (0, .ref m0), (1, .int (nI bk))] → W p l e ({ frames := 2, cells := 0, slots := 0, locals := 46 }) s m [.ref m0, .int (nI bk)].toArray below meth c s.heap [] 0 0 (MQ below (vp_Si (fun r => r = nI (b01 (rdO L.1 bk n)))) [.ref m0, .int (nI bk)].toArray s 0 0 (fun _ => False)) (F0 m 28 ls []) := by
        intro fu
        induction fu with
        | zero => intro k hk hf; omega
        | succ fu ih =>
          intro k hk hfu hi ls hl
          refine lv_iload_n hx hb dX2_rootIsRight_28 rfl (lv_at hl 0 rfl) ?_
          refine lv_iload_n hx hb dX2_rootIsRight_29 rfl (lv_at hl 1 rfl) ?_
          refine jb_gt (tgt := 103) hx hb (nI_toInt (n := 1 + k) (by omega)) (nI_toInt (n := L.1 (64 * bk)) (by omega)) dX2_rootIsRight_30 (by decide) (fun c5 => ?_) (fun c5 => ?_)
          · skip
            refine lv_iconst (v := nI 1) hx hb dX2_rootIsRight_103 (by decide +kernel) ?_
            exact rt_z hx hb hr hlocks dX2_rootIsRight_104 (by decide +kernel) (by rw [b01_t ⟨⟨q2, by omega⟩, fun j hj => hi j (by omega)⟩])
          · skip
            have g9 := hg (64 * bk + (1 + k))
            refine lv_aload_n hx hb dX2_rootIsRight_33 rfl (lv_at hl 2 rfl) ?_
            refine va_get (D := D) (ci := 3) (v := .ref m1) (C := RX2) (T := TX2) (N := 12) hx hb hts hinX2 hown hK hP 0 rfl rfl 1 (by decide) (hts (.fieldLink RX2 7 "PuzzleBookModel" "store" "[I") (by decide +kernel)) (fun _ h9 => h9) rfl dX2_rootIsRight_34 ?_
            refine lv_bipush (v := nI 64) hx hb dX2_rootIsRight_37 (by decide +kernel) ?_
            refine lv_iload_n hx hb dX2_rootIsRight_39 rfl (lv_at hl 3 rfl) ?_
            refine lv_imul hx hb dX2_rootIsRight_40 ?_
            refine lv_as (y := nI (64 * bk)) (pk_mul _ _) ?_
            refine lv_iload_n hx hb dX2_rootIsRight_41 rfl (lv_at hl 0 rfl) ?_
            refine lv_iadd hx hb dX2_rootIsRight_42 ?_
            refine lv_as (y := nI ((64 * bk) + (1 + k))) (nI_add _ _) ?_
            refine ld_i (f := L.1) (k := (64 * bk) + (1 + k)) hx hb hK hP 1 1 rfl rfl (by omega) (by decide) dX2_rootIsRight_43 ?_
            refine lv_istore (lv' := [(4, .int (nI (L.1 ((64 * bk) + (1 + k))))), (3, .int (nI (1 + k))), (2, .int (nI (L.1 (64 * bk)))), (0, .ref m0), (1, .int (nI bk))]) hx hb dX2_rootIsRight_44 hl (by decide) rfl (fun ls hl => ?_)
            refine lv_iload hx hb dX2_rootIsRight_46 (lv_at hl 0 rfl) ?_
            refine lv_iconst (v := nI 3) hx hb dX2_rootIsRight_48 (by decide +kernel) ?_
            refine jb_lt (tgt := 61) hx hb (nI_toInt (n := L.1 ((64 * bk) + (1 + k))) (by omega)) (nI_toInt (n := 3) (by decide)) dX2_rootIsRight_49 (by decide) (fun c6 => ?_) (fun c6 => ?_)
            · skip
              refine lv_iconst (v := nI 0) hx hb dX2_rootIsRight_61 (by decide +kernel) ?_
              exact rt_z hx hb hr hlocks dX2_rootIsRight_62 (by decide +kernel) (by rw [b01_f (fun h => h.2 k (by omega) (Or.inl (by omega)))])
            · skip
              refine lv_iload hx hb dX2_rootIsRight_52 (lv_at hl 0 rfl) ?_
              refine lv_aload_n hx hb dX2_rootIsRight_54 rfl (lv_at hl 3 rfl) ?_
              refine va_get (D := D) (ci := 3) (v := .int (nI n)) (C := RX2) (T := TX2) (N := 12) hx hb hts hinX2 hown hK hP 0 rfl rfl 0 (by decide) (hts (.fieldLink RX2 25 "PuzzleBookModel" "blocks" "I") (by decide +kernel)) (fun _ h9 => h9) rfl dX2_rootIsRight_55 ?_
              refine jb_lt (tgt := 63) hx hb (nI_toInt (n := L.1 ((64 * bk) + (1 + k))) (by omega)) (nI_toInt (n := n) (by omega)) dX2_rootIsRight_58 (by decide) (fun c7 => ?_) (fun c7 => ?_)
              · skip
                have loop2 : ∀ (fv j : Nat), j ≤ k → k - j < fv → (∀ i, i < j → ¬ L.1 (64 * bk + (1 + i)) = L.1 (64 * bk + (1 + k))) → ∀ ls : Array Slot, lv_has ls 6 [(5, .int (nI (1 + j))), (4, .int (nI (L.1 (64 * bk + (1 + k))))), (3, .int (nI (1 + k))), (2, .int (nI (L.1 (64 * bk)))), (0, .ref m0), (1, .int (nI bk))] → W p l e ({ frames := 2, cells := 0, slots := 0, locals := 46 }) s m [.ref m0, .int (nI bk)].toArray below meth c s.heap [] 0 0 (MQ below (vp_Si (fun r => r = nI (b01 (rdO L.1 bk n)))) [.ref m0, .int (nI bk)].toArray s 0 0 (fun _ => False)) (F0 m 66 ls []) := by
                  intro fv
                  induction fv with
                  | zero => intro j hj hf; omega
                  | succ fv ih2 =>
                    intro j hj hfv hji ls hl
                    refine lv_iload hx hb dX2_rootIsRight_66 (lv_at hl 0 rfl) ?_
                    refine lv_iload_n hx hb dX2_rootIsRight_68 rfl (lv_at hl 2 rfl) ?_
                    refine jb_ge (tgt := 97) hx hb (nI_toInt (n := 1 + j) (by omega)) (nI_toInt (n := 1 + k) (by omega)) dX2_rootIsRight_69 (by decide) (fun c8 => ?_) (fun c8 => ?_)
                    · skip
                      refine lv_iinc (v := nI (1 + k + 1)) (lv' := [(3, .int (nI (1 + k + 1))), (5, .int (nI (1 + j))), (4, .int (nI (L.1 (64 * bk + (1 + k))))), (2, .int (nI (L.1 (64 * bk)))), (0, .ref m0), (1, .int (nI bk))]) hx hb dX2_rootIsRight_97 hl (k := 2) rfl (nI_add _ 1) (by decide) rfl (fun ls hl => ?_)
                      refine lv_goto (tgt := 28) hx hb dX2_rootIsRight_100 (by decide) ?_
                      exact ih (k + 1) (by omega) (by omega) (fun i q => (Nat.lt_or_eq_of_le (Nat.le_of_lt_succ q)).elim (hi i) (fun q => by rw [q]; exact fun z => z.elim (fun z => by omega) (fun z => z.elim (fun z => by omega) (fun ⟨i, a, b⟩ => hji i (by omega) b)))) ls (lv_sub hl [0, 3, 4, 5] rfl)
                    · skip
                      have g8 := hg (64 * bk + (1 + j))
                      refine lv_aload_n hx hb dX2_rootIsRight_72 rfl (lv_at hl 4 rfl) ?_
                      refine va_get (D := D) (ci := 3) (v := .ref m1) (C := RX2) (T := TX2) (N := 12) hx hb hts hinX2 hown hK hP 0 rfl rfl 1 (by decide) (hts (.fieldLink RX2 7 "PuzzleBookModel" "store" "[I") (by decide +kernel)) (fun _ h9 => h9) rfl dX2_rootIsRight_73 ?_
                      refine lv_bipush (v := nI 64) hx hb dX2_rootIsRight_76 (by decide +kernel) ?_
                      refine lv_iload_n hx hb dX2_rootIsRight_78 rfl (lv_at hl 5 rfl) ?_
                      refine lv_imul hx hb dX2_rootIsRight_79 ?_
                      refine lv_as (y := nI (64 * bk)) (pk_mul _ _) ?_
                      refine lv_iload hx hb dX2_rootIsRight_80 (lv_at hl 0 rfl) ?_
                      refine lv_iadd hx hb dX2_rootIsRight_82 ?_
                      refine lv_as (y := nI ((64 * bk) + (1 + j))) (nI_add _ _) ?_
                      refine ld_i (f := L.1) (k := (64 * bk) + (1 + j)) hx hb hK hP 1 1 rfl rfl (by omega) (by decide) dX2_rootIsRight_83 ?_
                      refine lv_iload hx hb dX2_rootIsRight_84 (lv_at hl 1 rfl) ?_
                      refine jb_ne (tgt := 91) hx hb (nI_toInt (n := L.1 ((64 * bk) + (1 + j))) (by omega)) (nI_toInt (n := L.1 (64 * bk + (1 + k))) (by omega)) dX2_rootIsRight_86 (by decide) (fun c9 => ?_) (fun c9 => ?_)
                      · skip
                        refine lv_iinc (v := nI (1 + j + 1)) (lv' := [(5, .int (nI (1 + j + 1))), (4, .int (nI (L.1 (64 * bk + (1 + k))))), (3, .int (nI (1 + k))), (2, .int (nI (L.1 (64 * bk)))), (0, .ref m0), (1, .int (nI bk))]) hx hb dX2_rootIsRight_91 hl (k := 0) rfl (nI_add _ 1) (by decide) rfl (fun ls hl => ?_)
                        refine lv_goto (tgt := 66) hx hb dX2_rootIsRight_94 (by decide) ?_
                        exact ih2 (j + 1) (by omega) (by omega) (fun i q => (Nat.lt_or_eq_of_le (Nat.le_of_lt_succ q)).elim (hji i) (fun q => by rw [q]; exact fun z => c9 (by rw [z]))) ls (lv_sub hl [0, 1, 2, 3, 4, 5] rfl)
                      · skip
                        refine lv_iconst (v := nI 0) hx hb dX2_rootIsRight_89 (by decide +kernel) ?_
                        exact rt_z hx hb hr hlocks dX2_rootIsRight_90 (by decide +kernel) (by rw [b01_f (fun h => h.2 k (by omega) (Or.inr (Or.inr ⟨j, by omega, Int.ofNat_inj.mp c9⟩)))])
                refine lv_iconst (v := nI 1) hx hb dX2_rootIsRight_63 (by decide +kernel) ?_
                refine lv_istore (lv' := [(5, .int (nI 1)), (4, .int (nI (L.1 ((64 * bk) + (1 + k))))), (3, .int (nI (1 + k))), (2, .int (nI (L.1 (64 * bk)))), (0, .ref m0), (1, .int (nI bk))]) hx hb dX2_rootIsRight_64 hl (by decide) rfl (fun ls hl => ?_)
                exact loop2 (k + 1) 0 (by omega) (by omega) (fun i q => absurd q (Nat.not_lt_zero i)) ls (lv_sub hl [0, 1, 2, 3, 4, 5] rfl)
              · skip
                refine lv_iconst (v := nI 0) hx hb dX2_rootIsRight_61 (by decide +kernel) ?_
                exact rt_z hx hb hr hlocks dX2_rootIsRight_62 (by decide +kernel) (by rw [b01_f (fun h => h.2 k (by omega) (Or.inr (Or.inl (by omega))))])
      refine lv_iconst (v := nI 1) hx hb dX2_rootIsRight_26 (by decide +kernel) ?_
      refine lv_istore_n (lv' := [(3, .int (nI 1)), (2, .int (nI (L.1 (64 * bk)))), (0, .ref m0), (1, .int (nI bk))]) hx hb dX2_rootIsRight_27 rfl hl (by decide) rfl (fun ls hl => ?_)
      exact loop (L.1 (64 * bk) + 1) 0 (by omega) (by omega) (fun j q => absurd q (Nat.not_lt_zero j)) ls (lv_sub hl [0, 1, 2, 3] rfl)
    · skip
      refine lv_iconst (v := nI 0) hx hb dX2_rootIsRight_24 (by decide +kernel) ?_
      exact rt_z hx hb hr hlocks dX2_rootIsRight_25 (by decide +kernel) (by rw [b01_f (fun h => absurd h.1.2 (by omega))])
  · skip
    refine lv_as (y := nI 0) (congrArg nI (b01_f q2)) ?_
    refine j0_eq (tgt := 24) hx hb (nI_toInt (n := 0) (by decide)) dX2_rootIsRight_15 (by decide) (fun c10 => ?_) (fun c10 => absurd c10 (by omega))
    refine lv_iconst (v := nI 0) hx hb dX2_rootIsRight_24 (by decide +kernel) ?_
    exact rt_z hx hb hr hlocks dX2_rootIsRight_25 (by decide +kernel) (by rw [b01_f (fun h => q2 h.1.1)])
set_option maxRecDepth 100000 in
set_option maxHeartbeats 4000000 in
/-- feed(b) -/
theorem c_X2_feed (l : Launch) (D : va_G) (m0 m1 m2 m3 m4 m5 : Nat) (cB cI : ClassId) (n : Nat) (L : Lg) (fd : Nat → Nat) (fc : Nat) (op : Nat) (tn : Nat) (eb : Nat → Nat) (ec : Nat) (th : Nat) (bv : Int32) (bz : Int) (sz : Nat) (hf : fc ≤ 48) (h1 : bv.toInt = bz) : Met l yX2_feed wsX2_feed ({ frames := 0, cells := 0, slots := 0, locals := 0 }) (wP [.ref m0, .int bv] D (mW m0 m1 m2 m3 m4 m5 cB cI n L fd fc op tn eb ec th) (ty2 cB cI) sz) (wQi ((fedF fd fc bz).2.2) D (mW m0 m1 m2 m3 m4 m5 cB cI n L ((fedF fd fc bz).1) ((fedF fd fc bz).2.1) op tn eb ec 0) (va_A (mW m0 m1 m2 m3 m4 m5 cB cI n L fd fc op tn eb ec th) sz)) 0 0 (va_A (mW m0 m1 m2 m3 m4 m5 cB cI n L fd fc op tn eb ec th) sz) := by
  refine met_wi (by decide) rfl (Nat.le_of_ble_eq_true rfl) ?_
  intro p e s m below meth c hx hb hml hr hlocks hown hts hP hK A hD hA hS ls hl
  have hown : s.vm.findClass RX2 = some m.cls := hown
  have hinX2 : ∀ w ∈ u_ws RX2 TX2 12, w ∈ wsX2_feed := by decide +kernel
  have hl : lv_has ls 2 [(0, .ref m0), (1, .int bv)] := hl
  refine lv_aload_n hx hb dX2_feed_0 rfl (lv_at hl 0 rfl) ?_
  refine lv_iconst (v := nI 0) hx hb dX2_feed_1 (by decide +kernel) ?_
  refine va_put (D := D) (ci := 3) (v := .int (nI 0)) (ty := .int) (C := RX2) (T := TX2) (N := 12) hx hb hts hinX2 tyX2 tyX2_ok nmX2 hown hK hP hD hS 0 rfl rfl 5 (by decide) (hts (.fieldLink RX2 46 "PuzzleBookModel" "thrown" "I") (by decide +kernel)) (fun _ h9 => h9) rfl (by decide +kernel) rfl rfl (Nat.le_of_ble_eq_true rfl) dX2_feed_2 (fun H locs hP hD hS => ?_)
  have hP : va_P D vwCl (mW m0 m1 m2 m3 m4 m5 cB cI n L fd fc op tn eb ec 0) H := hP
  have hD : va_D A (mW m0 m1 m2 m3 m4 m5 cB cI n L fd fc op tn eb ec 0) := hD
  refine lv_iload_n hx hb dX2_feed_5 rfl (lv_at hl 1 rfl) ?_
  refine j0_lt (tgt := 25) hx hb h1 dX2_feed_6 (by decide) (fun c1 => ?_) (fun c1 => ?_)
  · skip
    have e9 : fedF fd fc bz = (fd, fc, nI 0) := if_neg (by omega)
    rw [e9]
    refine lv_iconst (v := nI 0) hx hb dX2_feed_25 (by decide +kernel) ?_
    exact rt_wz hx hb hr hlocks hP hD hS dX2_feed_26 (by decide +kernel) rfl
  · skip
    refine lv_iload_n hx hb dX2_feed_9 rfl (lv_at hl 1 rfl) ?_
    refine lv_sipush (v := nI 255) hx hb dX2_feed_10 (by decide +kernel) ?_
    refine jb_gt (tgt := 25) hx hb h1 (nI_toInt (n := 255) (by decide)) dX2_feed_13 (by decide) (fun c2 => ?_) (fun c2 => ?_)
    · skip
      have e9 : fedF fd fc bz = (fd, fc, nI 0) := if_neg (by omega)
      rw [e9]
      refine lv_iconst (v := nI 0) hx hb dX2_feed_25 (by decide +kernel) ?_
      exact rt_wz hx hb hr hlocks hP hD hS dX2_feed_26 (by decide +kernel) rfl
    · skip
      refine lv_aload_n hx hb dX2_feed_16 rfl (lv_at hl 0 rfl) ?_
      refine va_get (D := D) (ci := 3) (v := .int (nI fc)) (C := RX2) (T := TX2) (N := 12) hx hb hts hinX2 hown hK hP 0 rfl rfl 8 (by decide) (hts (.fieldLink RX2 61 "PuzzleBookModel" "fedLong" "I") (by decide +kernel)) (fun _ h9 => h9) rfl dX2_feed_17 ?_
      refine lv_bipush (v := nI 48) hx hb dX2_feed_20 (by decide +kernel) ?_
      refine jb_ne (tgt := 27) hx hb (nI_toInt (n := fc) (by omega)) (nI_toInt (n := 48) (by decide)) dX2_feed_22 (by decide) (fun c3 => ?_) (fun c3 => ?_)
      · skip
        obtain ⟨j, hj⟩ : ∃ j : Nat, bz = (j : Int) := ⟨bz.toNat, by omega⟩
        have ej : bv = nI j := Int32.toInt_inj.mp (by rw [h1, hj, nI_toInt (by omega)])
        have zj : bz.toNat = j := by omega
        have e9 : fedF fd fc bz = (va_up fd fc j, fc + 1, nI 1) := by rw [← zj]; exact if_pos (by omega)
        rw [e9]
        refine lv_aload_n hx hb dX2_feed_27 rfl (lv_at hl 0 rfl) ?_
        refine va_get (D := D) (ci := 3) (v := .ref m3) (C := RX2) (T := TX2) (N := 12) hx hb hts hinX2 hown hK hP 0 rfl rfl 7 (by decide) (hts (.fieldLink RX2 16 "PuzzleBookModel" "fed" "[I") (by decide +kernel)) (fun _ h9 => h9) rfl dX2_feed_28 ?_
        refine lv_aload_n hx hb dX2_feed_31 rfl (lv_at hl 0 rfl) ?_
        refine va_get (D := D) (ci := 3) (v := .int (nI fc)) (C := RX2) (T := TX2) (N := 12) hx hb hts hinX2 hown hK hP 0 rfl rfl 8 (by decide) (hts (.fieldLink RX2 61 "PuzzleBookModel" "fedLong" "I") (by decide +kernel)) (fun _ h9 => h9) rfl dX2_feed_32 ?_
        refine lv_iload_n hx hb dX2_feed_35 rfl (lv_at hl 1 rfl) ?_
        refine lv_as (y := nI j) ej ?_
        refine st_i (f := fd) (k := fc) (x := j) hx hb hK hP hD hS 3 1 rfl rfl (by omega) (by decide) dX2_feed_36 (fun H locs hP hD hS => ?_)
        have hP : va_P D vwCl (mW m0 m1 m2 m3 m4 m5 cB cI n L (va_up fd fc j) fc op tn eb ec 0) H := hP
        have hD : va_D A (mW m0 m1 m2 m3 m4 m5 cB cI n L (va_up fd fc j) fc op tn eb ec 0) := hD
        refine lv_aload_n hx hb dX2_feed_37 rfl (lv_at hl 0 rfl) ?_
        refine lv_dup hx hb dX2_feed_38 rfl ?_
        refine va_get (D := D) (ci := 3) (v := .int (nI fc)) (C := RX2) (T := TX2) (N := 12) hx hb hts hinX2 hown hK hP 0 rfl rfl 8 (by decide) (hts (.fieldLink RX2 61 "PuzzleBookModel" "fedLong" "I") (by decide +kernel)) (fun _ h9 => h9) rfl dX2_feed_39 ?_
        refine lv_iconst (v := nI 1) hx hb dX2_feed_42 (by decide +kernel) ?_
        refine lv_iadd hx hb dX2_feed_43 ?_
        refine lv_as (y := nI (fc + 1)) (nI_add _ _) ?_
        refine va_put (D := D) (ci := 3) (v := .int (nI (fc + 1))) (ty := .int) (C := RX2) (T := TX2) (N := 12) hx hb hts hinX2 tyX2 tyX2_ok nmX2 hown hK hP hD hS 0 rfl rfl 8 (by decide) (hts (.fieldLink RX2 61 "PuzzleBookModel" "fedLong" "I") (by decide +kernel)) (fun _ h9 => h9) rfl (by decide +kernel) rfl rfl (Nat.le_of_ble_eq_true rfl) dX2_feed_44 (fun H locs hP hD hS => ?_)
        have hP : va_P D vwCl (mW m0 m1 m2 m3 m4 m5 cB cI n L (va_up fd fc j) (fc + 1) op tn eb ec 0) H := hP
        have hD : va_D A (mW m0 m1 m2 m3 m4 m5 cB cI n L (va_up fd fc j) (fc + 1) op tn eb ec 0) := hD
        refine lv_iconst (v := nI 1) hx hb dX2_feed_47 (by decide +kernel) ?_
        exact rt_wz hx hb hr hlocks hP hD hS dX2_feed_48 (by decide +kernel) rfl
      · skip
        have e9 : fedF fd fc bz = (fd, fc, nI 0) := if_neg (by omega)
        rw [e9]
        refine lv_iconst (v := nI 0) hx hb dX2_feed_25 (by decide +kernel) ?_
        exact rt_wz hx hb hr hlocks hP hD hS dX2_feed_26 (by decide +kernel) rfl
set_option maxRecDepth 100000 in
set_option maxHeartbeats 4000000 in
/-- put(name) -/
theorem c_X2_put (l : Launch) (D : va_G) (m0 m1 m2 m3 m4 m5 : Nat) (cB cI : ClassId) (n : Nat) (L : Lg) (fd : Nat → Nat) (fc : Nat) (op : Nat) (tn : Nat) (eb : Nat → Nat) (ec : Nat) (th : Nat) (nv : Int32) (nz : Int) (sz : Nat) (hn0 : 4 ≤ n) (hn : n ≤ 64) (hg : ∀ j, L.1 j < 256) (he : ec ≤ 40) (hE : ∀ k, bO eb ec k < n) (hf : fc ≤ 48) (hd : ∀ i, fd i < 256) (ho : op ≤ 1) (ht : op ≠ 0 → tn = 1 ∨ tn = 2) (h1 : nv.toInt = nz) : Met l yX2_put wsX2_put ({ frames := 3, cells := 0, slots := 0, locals := 71 }) (wP [.ref m0, .int nv] D (mW m0 m1 m2 m3 m4 m5 cB cI n L fd fc op tn eb ec th) (ty2 cB cI) sz) (wQi ((putF n L fd fc op tn eb ec nz).2.2.2.2.2) D (mW m0 m1 m2 m3 m4 m5 cB cI n ((putF n L fd fc op tn eb ec nz).1) fd ((putF n L fd fc op tn eb ec nz).2.1) op ((putF n L fd fc op tn eb ec nz).2.2.1) ((putF n L fd fc op tn eb ec nz).2.2.2.1) ((putF n L fd fc op tn eb ec nz).2.2.2.2.1) 0) (va_A (mW m0 m1 m2 m3 m4 m5 cB cI n L fd fc op tn eb ec th) sz)) 0 0 (va_A (mW m0 m1 m2 m3 m4 m5 cB cI n L fd fc op tn eb ec th) sz) := by
  refine met_wi (by decide) rfl (Nat.le_of_ble_eq_true rfl) ?_
  intro p e s m below meth c hx hb hml hr hlocks hown hts hP hK A hD hA hS ls hl
  have hown : s.vm.findClass RX2 = some m.cls := hown
  have hinX2 : ∀ w ∈ u_ws RX2 TX2 12, w ∈ wsX2_put := by decide +kernel
  have hl : lv_has ls 3 [(0, .ref m0), (1, .int nv)] := hl
  refine lv_aload_n hx hb dX2_put_0 rfl (lv_at hl 0 rfl) ?_
  refine lv_iconst (v := nI 0) hx hb dX2_put_1 (by decide +kernel) ?_
  refine va_put (D := D) (ci := 3) (v := .int (nI 0)) (ty := .int) (C := RX2) (T := TX2) (N := 12) hx hb hts hinX2 tyX2 tyX2_ok nmX2 hown hK hP hD hS 0 rfl rfl 5 (by decide) (hts (.fieldLink RX2 46 "PuzzleBookModel" "thrown" "I") (by decide +kernel)) (fun _ h9 => h9) rfl (by decide +kernel) rfl rfl (Nat.le_of_ble_eq_true rfl) dX2_put_2 (fun H locs hP hD hS => ?_)
  have hP : va_P D vwCl (mW m0 m1 m2 m3 m4 m5 cB cI n L fd fc op tn eb ec 0) H := hP
  have hD : va_D A (mW m0 m1 m2 m3 m4 m5 cB cI n L fd fc op tn eb ec 0) := hD
  refine lv_aload_n hx hb dX2_put_5 rfl (lv_at hl 0 rfl) ?_
  refine va_get (D := D) (ci := 3) (v := .int (nI op)) (C := RX2) (T := TX2) (N := 12) hx hb hts hinX2 hown hK hP 0 rfl rfl 2 (by decide) (hts (.fieldLink RX2 32 "PuzzleBookModel" "open" "Z") (by decide +kernel)) (fun _ h9 => h9) rfl dX2_put_6 ?_
  refine j0_eq (tgt := 29) hx hb (nI_toInt (n := op) (by omega)) dX2_put_9 (by decide) (fun c1 => ?_) (fun c1 => ?_)
  · skip
    have e9 : putF n L fd fc op tn eb ec nz = (L, fc, tn, eb, ec, -1) := if_neg (by omega)
    rw [e9]
    refine lv_iconst (v := -1) hx hb dX2_put_29 (by decide +kernel) ?_
    exact rt_wi hx hb hr hlocks hP hD hS dX2_put_30 rfl
  · skip
    refine lv_iload_n hx hb dX2_put_12 rfl (lv_at hl 1 rfl) ?_
    refine j0_lt (tgt := 29) hx hb h1 dX2_put_13 (by decide) (fun c2 => ?_) (fun c2 => ?_)
    · skip
      have e9 : putF n L fd fc op tn eb ec nz = (L, fc, tn, eb, ec, -1) := if_neg (by omega)
      rw [e9]
      refine lv_iconst (v := -1) hx hb dX2_put_29 (by decide +kernel) ?_
      exact rt_wi hx hb hr hlocks hP hD hS dX2_put_30 rfl
    · skip
      refine lv_iload_n hx hb dX2_put_16 rfl (lv_at hl 1 rfl) ?_
      refine lv_ldc (v := (65535)) hx hb hown (hts (.constant RX2 71 (65535)) (by decide +kernel)) dX2_put_17 ?_
      refine lv_as (y := nI 65535) (by decide +kernel) ?_
      refine jb_gt (tgt := 29) hx hb h1 (nI_toInt (n := 65535) (by decide)) dX2_put_19 (by decide) (fun c3 => ?_) (fun c3 => ?_)
      · skip
        have e9 : putF n L fd fc op tn eb ec nz = (L, fc, tn, eb, ec, -1) := if_neg (by omega)
        rw [e9]
        refine lv_iconst (v := -1) hx hb dX2_put_29 (by decide +kernel) ?_
        exact rt_wi hx hb hr hlocks hP hD hS dX2_put_30 rfl
      · skip
        refine lv_aload_n hx hb dX2_put_22 rfl (lv_at hl 0 rfl) ?_
        refine va_get (D := D) (ci := 3) (v := .int (nI fc)) (C := RX2) (T := TX2) (N := 12) hx hb hts hinX2 hown hK hP 0 rfl rfl 8 (by decide) (hts (.fieldLink RX2 61 "PuzzleBookModel" "fedLong" "I") (by decide +kernel)) (fun _ h9 => h9) rfl dX2_put_23 ?_
        refine j0_ne (tgt := 31) hx hb (nI_toInt (n := fc) (by omega)) dX2_put_26 (by decide) (fun c4 => ?_) (fun c4 => ?_)
        · skip
          have hA1 : op ≠ 0 ∧ 0 ≤ nz ∧ nz ≤ 65535 ∧ fc ≠ 0 := by omega
          obtain ⟨nm, hnm⟩ : ∃ j : Nat, nz = (j : Int) := ⟨nz.toNat, by omega⟩
          have enm : nv = nI nm := Int32.toInt_inj.mp (by rw [h1, hnm, nI_toInt (by omega)])
          have znm : nz.toNat = nm := by omega
          have loop : ∀ (fu k : Nat), k ≤ ec → ec - k < fu → (∀ j, j < k → ¬ hF L.1 (bO eb ec j) fd fc) → ∀ (H : Heap) (locs : List Loc), va_P D vwCl (mW m0 m1 m2 m3 m4 m5 cB cI n L fd fc op tn eb ec 0) H → va_D A (mW m0 m1 m2 m3 m4 m5 cB cI n L fd fc op tn eb ec 0) → va_S A s.heap H locs → ∀ ls : Array Slot, lv_has ls 3 [(2, .int (nI k)), (0, .ref m0), (1, .int nv)] → W p l e ({ frames := 3, cells := 0, slots := 0, locals := 71 }) s m [.ref m0, .int nv].toArray below meth c H locs 0 0 (MQ below (wQi ((putF n L fd fc op tn eb ec nz).2.2.2.2.2) D (mW m0 m1 m2 m3 m4 m5 cB cI n ((putF n L fd fc op tn eb ec nz).1) fd ((putF n L fd fc op tn eb ec nz).2.1) op ((putF n L fd fc op tn eb ec nz).2.2.1) ((putF n L fd fc op tn eb ec nz).2.2.2.1) ((putF n L fd fc op tn eb ec nz).2.2.2.2.1) 0) A) [.ref m0, .int nv].toArray s 0 0 A) (F0 m 33 ls []) := by
            intro fu
            induction fu with
            | zero => intro k hk hf; omega
            | succ fu ih =>
              intro k hk hfu hj H locs hP hD hS ls hl
              refine lv_iload_n hx hb dX2_put_33 rfl (lv_at hl 0 rfl) ?_
              refine lv_aload_n hx hb dX2_put_34 rfl (lv_at hl 1 rfl) ?_
              refine va_get (D := D) (ci := 3) (v := .int (nI ec)) (C := RX2) (T := TX2) (N := 12) hx hb hts hinX2 hown hK hP 0 rfl rfl 4 (by decide) (hts (.fieldLink RX2 54 "PuzzleBookModel" "entries" "I") (by decide +kernel)) (fun _ h9 => h9) rfl dX2_put_35 ?_
              refine jb_ge (tgt := 62) hx hb (nI_toInt (n := k) (by omega)) (nI_toInt (n := ec) (by omega)) dX2_put_38 (by decide) (fun c5 => ?_) (fun c5 => ?_)
              · skip
                have q0 : fN (fun k => hF L.1 (bO eb ec k) fd fc) ec = ec := fN_no (fun j hj9 => hj j (by omega))
                have q1 : ¬ fN (fun k => hF L.1 (bO eb ec k) fd fc) ec < ec := by omega
                refine lv_aload_n hx hb dX2_put_62 rfl (lv_at hl 1 rfl) ?_
                refine rd_V (As := []) (rest := []) ⟨hx, hb, hml, hown, hts⟩ (c_X2_leastFree l D m0 m1 m2 m3 m4 m5 cB cI n L fd fc op tn eb ec 0  hn0 hn he hE) (cwV 0 hts gX2_put_X2_leastFree rfl rfl rfl (by decide +kernel) ⟨Nat.le_of_ble_eq_true rfl, Nat.le_of_ble_eq_true rfl⟩) hK hP [0, 1, 2, 3, 4, 5] rfl (ci := 3) rfl rfl (q0 := 0) rfl rfl hl.1 rfl (Nat.le_of_ble_eq_true rfl) dX2_put_63 ⟨Nat.zero_le _, Nat.zero_le _⟩ (fun r6 hr6 => ?_)
                subst hr6
                by_cases q2 : (lfB (bO eb ec) ec n) < n
                · skip
                  refine lv_as (y := nI (lfB (bO eb ec) ec n)) (if_pos q2) ?_
                  refine lv_istore_n (lv' := [(2, .int (nI (lfB (bO eb ec) ec n))), (0, .ref m0), (1, .int nv)]) hx hb dX2_put_66 rfl hl (by decide) rfl (fun ls hl => ?_)
                  refine lv_aload_n hx hb dX2_put_67 rfl (lv_at hl 1 rfl) ?_
                  refine va_get (D := D) (ci := 3) (v := .int (nI ec)) (C := RX2) (T := TX2) (N := 12) hx hb hts hinX2 hown hK hP 0 rfl rfl 4 (by decide) (hts (.fieldLink RX2 54 "PuzzleBookModel" "entries" "I") (by decide +kernel)) (fun _ h9 => h9) rfl dX2_put_68 ?_
                  refine lv_bipush (v := nI 40) hx hb dX2_put_71 (by decide +kernel) ?_
                  refine jb_eq (tgt := 80) hx hb (nI_toInt (n := ec) (by omega)) (nI_toInt (n := 40) (by decide)) dX2_put_73 (by decide) (fun c7 => ?_) (fun c7 => ?_)
                  · skip
                    have e9 : putF n L fd fc op tn eb ec nz = (L, fc, tn, eb, ec, -1) := (if_pos hA1).trans ((if_neg q1).trans (if_neg (by omega)))
                    rw [e9]
                    refine lv_iconst (v := -1) hx hb dX2_put_80 (by decide +kernel) ?_
                    exact rt_wi hx hb hr hlocks hP hD hS dX2_put_81 rfl
                  · skip
                    refine lv_iload_n hx hb dX2_put_76 rfl (lv_at hl 0 rfl) ?_
                    refine j0_ge (tgt := 82) hx hb (nI_toInt (n := (lfB (bO eb ec) ec n)) (by omega)) dX2_put_77 (by decide) (fun c8 => ?_) (fun c8 => absurd c8 (by omega))
                    have t9 := ht (by omega)
                    have e9 : putF n L fd fc op tn eb ec nz = (w1 (wR (wE (w0 L) (lfB (bO eb ec) ec n) nm fc fd) (3 - tn) (ec + 1) (bO (va_up eb ec (lfB (bO eb ec) ec n)) (ec + 1))) (64 * 0 + 0) (3 - tn), 0, 3 - tn, va_up eb ec (lfB (bO eb ec) ec n), ec + 1, nI ec) := by rw [← znm]; exact (if_pos hA1).trans ((if_neg q1).trans (if_pos (by omega)))
                    rw [e9]
                    refine lv_aload_n hx hb dX2_put_82 rfl (lv_at hl 1 rfl) ?_
                    refine lv_iconst (v := nI 0) hx hb dX2_put_83 (by decide +kernel) ?_
                    refine va_put (D := D) (ci := 3) (v := .int (nI 0)) (ty := .int) (C := RX2) (T := TX2) (N := 12) hx hb hts hinX2 tyX2 tyX2_ok nmX2 hown hK hP hD hS 0 rfl rfl 11 (by decide) (hts (.fieldLink RX2 43 "PuzzleBookModel" "written" "I") (by decide +kernel)) (fun _ h9 => h9) rfl (by decide +kernel) rfl rfl (Nat.le_of_ble_eq_true rfl) dX2_put_84 (fun H locs hP hD hS => ?_)
                    have hP : va_P D vwCl (mW m0 m1 m2 m3 m4 m5 cB cI n (L.1, L.2.1, L.2.2.1, 0) fd fc op tn eb ec 0) H := hP
                    have hD : va_D A (mW m0 m1 m2 m3 m4 m5 cB cI n (L.1, L.2.1, L.2.2.1, 0) fd fc op tn eb ec 0) := hD
                    refine lv_aload_n hx hb dX2_put_87 rfl (lv_at hl 1 rfl) ?_
                    refine lv_iload_n hx hb dX2_put_88 rfl (lv_at hl 0 rfl) ?_
                    refine lv_iload_n hx hb dX2_put_89 rfl (lv_at hl 2 rfl) ?_
                    refine lv_as (y := nI nm) enm ?_
                    refine wr_V (wr := []) (wo := (mW m0 m1 m2 m3 m4 m5 cB cI n (wE (L.1, L.2.1, L.2.2.1, 0) (lfB (bO eb ec) ec n) nm fc fd) fd fc op tn eb ec 0)) (As := [.int (nI (lfB (bO eb ec) ec n)), .int (nI nm)]) (rest := []) ⟨hx, hb, hml, hown, hts⟩ (c_X2_writeEntry l D m0 m1 m2 m3 m4 m5 cB cI n (L.1, L.2.1, L.2.2.1, 0) fd fc op tn eb ec 0 (lfB (bO eb ec) ec n) nm H.size  (by omega) (by omega) hf (by show 0 + 64 ≤ 129; omega)) (cwV 2 hts gX2_put_X2_writeEntry rfl rfl rfl (by decide +kernel) ⟨Nat.le_of_ble_eq_true rfl, Nat.le_of_ble_eq_true rfl⟩) hK hP hD hS hA [0, 1, 2, 3, 4, 5] [] rfl rfl rfl rfl (by decide) [0, 1, 2, 3, 4, 5] rfl rfl (ci := 3) rfl rfl (q0 := 0) rfl rfl hl.1 rfl (Nat.le_of_ble_eq_true rfl) dX2_put_90 ⟨Nat.zero_le _, Nat.zero_le _⟩ (fun H locs hP hD hS => ?_)
                    refine lv_aload_n hx hb dX2_put_93 rfl (lv_at hl 1 rfl) ?_
                    refine va_get (D := D) (ci := 3) (v := .ref m2) (C := RX2) (T := TX2) (N := 12) hx hb hts hinX2 hown hK hP 0 rfl rfl 6 (by decide) (hts (.fieldLink RX2 13 "PuzzleBookModel" "block" "[I") (by decide +kernel)) (fun _ h9 => h9) rfl dX2_put_94 ?_
                    refine lv_aload_n hx hb dX2_put_97 rfl (lv_at hl 1 rfl) ?_
                    refine va_get (D := D) (ci := 3) (v := .int (nI ec)) (C := RX2) (T := TX2) (N := 12) hx hb hts hinX2 hown hK hP 0 rfl rfl 4 (by decide) (hts (.fieldLink RX2 54 "PuzzleBookModel" "entries" "I") (by decide +kernel)) (fun _ h9 => h9) rfl dX2_put_98 ?_
                    refine lv_iload_n hx hb dX2_put_101 rfl (lv_at hl 0 rfl) ?_
                    refine st_i (f := eb) (k := ec) (x := (lfB (bO eb ec) ec n)) hx hb hK hP hD hS 2 1 rfl rfl (by omega) (by decide) dX2_put_102 (fun H locs hP hD hS => ?_)
                    have hP : va_P D vwCl (mW m0 m1 m2 m3 m4 m5 cB cI n (wE (L.1, L.2.1, L.2.2.1, 0) (lfB (bO eb ec) ec n) nm fc fd) fd fc op tn (va_up eb ec (lfB (bO eb ec) ec n)) ec 0) H := hP
                    have hD : va_D A (mW m0 m1 m2 m3 m4 m5 cB cI n (wE (L.1, L.2.1, L.2.2.1, 0) (lfB (bO eb ec) ec n) nm fc fd) fd fc op tn (va_up eb ec (lfB (bO eb ec) ec n)) ec 0) := hD
                    refine lv_aload_n hx hb dX2_put_103 rfl (lv_at hl 1 rfl) ?_
                    refine lv_dup hx hb dX2_put_104 rfl ?_
                    refine va_get (D := D) (ci := 3) (v := .int (nI ec)) (C := RX2) (T := TX2) (N := 12) hx hb hts hinX2 hown hK hP 0 rfl rfl 4 (by decide) (hts (.fieldLink RX2 54 "PuzzleBookModel" "entries" "I") (by decide +kernel)) (fun _ h9 => h9) rfl dX2_put_105 ?_
                    refine lv_iconst (v := nI 1) hx hb dX2_put_108 (by decide +kernel) ?_
                    refine lv_iadd hx hb dX2_put_109 ?_
                    refine lv_as (y := nI (ec + 1)) (nI_add _ _) ?_
                    refine va_put (D := D) (ci := 3) (v := .int (nI (ec + 1))) (ty := .int) (C := RX2) (T := TX2) (N := 12) hx hb hts hinX2 tyX2 tyX2_ok nmX2 hown hK hP hD hS 0 rfl rfl 4 (by decide) (hts (.fieldLink RX2 54 "PuzzleBookModel" "entries" "I") (by decide +kernel)) (fun _ h9 => h9) rfl (by decide +kernel) rfl rfl (Nat.le_of_ble_eq_true rfl) dX2_put_110 (fun H locs hP hD hS => ?_)
                    have hP : va_P D vwCl (mW m0 m1 m2 m3 m4 m5 cB cI n (wE (L.1, L.2.1, L.2.2.1, 0) (lfB (bO eb ec) ec n) nm fc fd) fd fc op tn (va_up eb ec (lfB (bO eb ec) ec n)) (ec + 1) 0) H := hP
                    have hD : va_D A (mW m0 m1 m2 m3 m4 m5 cB cI n (wE (L.1, L.2.1, L.2.2.1, 0) (lfB (bO eb ec) ec n) nm fc fd) fd fc op tn (va_up eb ec (lfB (bO eb ec) ec n)) (ec + 1) 0) := hD
                    refine lv_aload_n hx hb dX2_put_113 rfl (lv_at hl 1 rfl) ?_
                    refine lv_iconst (v := nI 3) hx hb dX2_put_114 (by decide +kernel) ?_
                    refine lv_aload_n hx hb dX2_put_115 rfl (lv_at hl 1 rfl) ?_
                    refine va_get (D := D) (ci := 3) (v := .int (nI tn)) (C := RX2) (T := TX2) (N := 12) hx hb hts hinX2 hown hK hP 0 rfl rfl 3 (by decide) (hts (.fieldLink RX2 29 "PuzzleBookModel" "turn" "I") (by decide +kernel)) (fun _ h9 => h9) rfl dX2_put_116 ?_
                    refine lv_isub hx hb dX2_put_119 ?_
                    refine lv_as (y := nI (3 - tn)) (pk_sub (by omega)) ?_
                    refine lv_iconst (v := -1) hx hb dX2_put_120 (by decide +kernel) ?_
                    refine wr_V (wr := []) (wo := (mW m0 m1 m2 m3 m4 m5 cB cI n (wR (wE (L.1, L.2.1, L.2.2.1, 0) (lfB (bO eb ec) ec n) nm fc fd) (3 - tn) (ec + 1) (bO (va_up eb ec (lfB (bO eb ec) ec n)) (ec + 1))) fd fc op tn (va_up eb ec (lfB (bO eb ec) ec n)) (ec + 1) 0)) (As := [.int (nI (3 - tn)), .int (-1)]) (rest := []) ⟨hx, hb, hml, hown, hts⟩ (c_X2_writeRoot l D m0 m1 m2 m3 m4 m5 cB cI n (wE (L.1, L.2.1, L.2.2.1, 0) (lfB (bO eb ec) ec n) nm fc fd) fd fc op tn (va_up eb ec (lfB (bO eb ec) ec n)) (ec + 1) 0 (3 - tn) H.size  (by omega) (by omega) (by rw [wE_c]; show 0 + 64 + 64 ≤ 129; omega)) (cwV 2 hts gX2_put_X2_writeRoot rfl rfl rfl (by decide +kernel) ⟨Nat.le_of_ble_eq_true rfl, Nat.le_of_ble_eq_true rfl⟩) hK hP hD hS hA [0, 1, 2, 3, 4, 5] [] rfl rfl rfl rfl (by decide) [0, 1, 2, 3, 4, 5] rfl rfl (ci := 3) rfl rfl (q0 := 0) rfl rfl hl.1 rfl (Nat.le_of_ble_eq_true rfl) dX2_put_121 ⟨Nat.zero_le _, Nat.zero_le _⟩ (fun H locs hP hD hS => ?_)
                    refine lv_aload_n hx hb dX2_put_124 rfl (lv_at hl 1 rfl) ?_
                    refine lv_iconst (v := nI 3) hx hb dX2_put_125 (by decide +kernel) ?_
                    refine lv_aload_n hx hb dX2_put_126 rfl (lv_at hl 1 rfl) ?_
                    refine va_get (D := D) (ci := 3) (v := .int (nI tn)) (C := RX2) (T := TX2) (N := 12) hx hb hts hinX2 hown hK hP 0 rfl rfl 3 (by decide) (hts (.fieldLink RX2 29 "PuzzleBookModel" "turn" "I") (by decide +kernel)) (fun _ h9 => h9) rfl dX2_put_127 ?_
                    refine lv_isub hx hb dX2_put_130 ?_
                    refine lv_as (y := nI (3 - tn)) (pk_sub (by omega)) ?_
                    refine wr_V (wr := []) (wo := (mW m0 m1 m2 m3 m4 m5 cB cI n (w1 (wR (wE (L.1, L.2.1, L.2.2.1, 0) (lfB (bO eb ec) ec n) nm fc fd) (3 - tn) (ec + 1) (bO (va_up eb ec (lfB (bO eb ec) ec n)) (ec + 1))) (64 * 0 + 0) (3 - tn)) fd fc op (3 - tn) (va_up eb ec (lfB (bO eb ec) ec n)) (ec + 1) 0)) (As := [.int (nI (3 - tn))]) (rest := []) ⟨hx, hb, hml, hown, hts⟩ (c_X2_turnTo l D m0 m1 m2 m3 m4 m5 cB cI n (wR (wE (L.1, L.2.1, L.2.2.1, 0) (lfB (bO eb ec) ec n) nm fc fd) (3 - tn) (ec + 1) (bO (va_up eb ec (lfB (bO eb ec) ec n)) (ec + 1))) fd fc op tn (va_up eb ec (lfB (bO eb ec) ec n)) (ec + 1) 0 (3 - tn) H.size  (by rw [wR_c, wE_c]; show 0 + 64 + 64 < 129; omega)) (cwV 1 hts gX2_put_X2_turnTo rfl rfl rfl (by decide +kernel) ⟨Nat.le_of_ble_eq_true rfl, Nat.le_of_ble_eq_true rfl⟩) hK hP hD hS hA [0, 1, 2, 3, 4, 5] [] rfl rfl rfl rfl (by decide) [0, 1, 2, 3, 4, 5] rfl rfl (ci := 3) rfl rfl (q0 := 0) rfl rfl hl.1 rfl (Nat.le_of_ble_eq_true rfl) dX2_put_131 ⟨Nat.zero_le _, Nat.zero_le _⟩ (fun H locs hP hD hS => ?_)
                    refine lv_aload_n hx hb dX2_put_134 rfl (lv_at hl 1 rfl) ?_
                    refine lv_iconst (v := nI 0) hx hb dX2_put_135 (by decide +kernel) ?_
                    refine va_put (D := D) (ci := 3) (v := .int (nI 0)) (ty := .int) (C := RX2) (T := TX2) (N := 12) hx hb hts hinX2 tyX2 tyX2_ok nmX2 hown hK hP hD hS 0 rfl rfl 8 (by decide) (hts (.fieldLink RX2 61 "PuzzleBookModel" "fedLong" "I") (by decide +kernel)) (fun _ h9 => h9) rfl (by decide +kernel) rfl rfl (Nat.le_of_ble_eq_true rfl) dX2_put_136 (fun H locs hP hD hS => ?_)
                    have hP : va_P D vwCl (mW m0 m1 m2 m3 m4 m5 cB cI n (w1 (wR (wE (L.1, L.2.1, L.2.2.1, 0) (lfB (bO eb ec) ec n) nm fc fd) (3 - tn) (ec + 1) (bO (va_up eb ec (lfB (bO eb ec) ec n)) (ec + 1))) (64 * 0 + 0) (3 - tn)) fd 0 op (3 - tn) (va_up eb ec (lfB (bO eb ec) ec n)) (ec + 1) 0) H := hP
                    have hD : va_D A (mW m0 m1 m2 m3 m4 m5 cB cI n (w1 (wR (wE (L.1, L.2.1, L.2.2.1, 0) (lfB (bO eb ec) ec n) nm fc fd) (3 - tn) (ec + 1) (bO (va_up eb ec (lfB (bO eb ec) ec n)) (ec + 1))) (64 * 0 + 0) (3 - tn)) fd 0 op (3 - tn) (va_up eb ec (lfB (bO eb ec) ec n)) (ec + 1) 0) := hD
                    refine lv_aload_n hx hb dX2_put_139 rfl (lv_at hl 1 rfl) ?_
                    refine va_get (D := D) (ci := 3) (v := .int (nI (ec + 1))) (C := RX2) (T := TX2) (N := 12) hx hb hts hinX2 hown hK hP 0 rfl rfl 4 (by decide) (hts (.fieldLink RX2 54 "PuzzleBookModel" "entries" "I") (by decide +kernel)) (fun _ h9 => h9) rfl dX2_put_140 ?_
                    refine lv_iconst (v := nI 1) hx hb dX2_put_143 (by decide +kernel) ?_
                    refine lv_isub hx hb dX2_put_144 ?_
                    refine lv_as (y := nI ((ec + 1) - 1)) (pk_sub (by omega)) ?_
                    exact rt_wi hx hb hr hlocks hP hD hS dX2_put_145 (congrArg nI (by omega))
                · skip
                  refine lv_as (y := (-1)) (if_neg q2) ?_
                  refine lv_istore_n (lv' := [(2, .int (-1)), (0, .ref m0), (1, .int nv)]) hx hb dX2_put_66 rfl hl (by decide) rfl (fun ls hl => ?_)
                  refine lv_aload_n hx hb dX2_put_67 rfl (lv_at hl 1 rfl) ?_
                  refine va_get (D := D) (ci := 3) (v := .int (nI ec)) (C := RX2) (T := TX2) (N := 12) hx hb hts hinX2 hown hK hP 0 rfl rfl 4 (by decide) (hts (.fieldLink RX2 54 "PuzzleBookModel" "entries" "I") (by decide +kernel)) (fun _ h9 => h9) rfl dX2_put_68 ?_
                  refine lv_bipush (v := nI 40) hx hb dX2_put_71 (by decide +kernel) ?_
                  refine jb_eq (tgt := 80) hx hb (nI_toInt (n := ec) (by omega)) (nI_toInt (n := 40) (by decide)) dX2_put_73 (by decide) (fun c9 => ?_) (fun c9 => ?_)
                  · skip
                    have e9 : putF n L fd fc op tn eb ec nz = (L, fc, tn, eb, ec, -1) := (if_pos hA1).trans ((if_neg q1).trans (if_neg (by omega)))
                    rw [e9]
                    refine lv_iconst (v := -1) hx hb dX2_put_80 (by decide +kernel) ?_
                    exact rt_wi hx hb hr hlocks hP hD hS dX2_put_81 rfl
                  · skip
                    refine lv_iload_n hx hb dX2_put_76 rfl (lv_at hl 0 rfl) ?_
                    refine j0_ge (tgt := 82) hx hb neg1_toInt dX2_put_77 (by decide) (fun c10 => absurd c10 (by omega)) (fun c10 => ?_)
                    have e9 : putF n L fd fc op tn eb ec nz = (L, fc, tn, eb, ec, -1) := (if_pos hA1).trans ((if_neg q1).trans (if_neg (fun h => q2 h.1)))
                    rw [e9]
                    refine lv_iconst (v := -1) hx hb dX2_put_80 (by decide +kernel) ?_
                    exact rt_wi hx hb hr hlocks hP hD hS dX2_put_81 rfl
              · skip
                refine lv_aload_n hx hb dX2_put_41 rfl (lv_at hl 1 rfl) ?_
                refine lv_iload_n hx hb dX2_put_42 rfl (lv_at hl 0 rfl) ?_
                refine rd_V (As := [.int (nI k)]) (rest := []) ⟨hx, hb, hml, hown, hts⟩ (c_X2_hasFed l D m0 m1 m2 m3 m4 m5 cB cI n L fd fc op tn eb ec 0 k hn hg he hE (by omega) hf hd) (cwV 1 hts gX2_put_X2_hasFed rfl rfl rfl (by decide +kernel) ⟨Nat.le_of_ble_eq_true rfl, Nat.le_of_ble_eq_true rfl⟩) hK hP [0, 1, 2, 3, 4, 5] rfl (ci := 3) rfl rfl (q0 := 0) rfl rfl hl.1 rfl (Nat.le_of_ble_eq_true rfl) dX2_put_43 ⟨Nat.zero_le _, Nat.zero_le _⟩ (fun r11 hr11 => ?_)
                subst hr11
                by_cases q12 : (hF L.1 (bO eb ec k) fd fc)
                · skip
                  refine lv_as (y := nI 1) (congrArg nI (b01_t q12)) ?_
                  refine j0_eq (tgt := 56) hx hb (nI_toInt (n := 1) (by decide)) dX2_put_46 (by decide) (fun c13 => absurd c13 (by omega)) (fun c13 => ?_)
                  have q0 : fN (fun k => hF L.1 (bO eb ec k) fd fc) ec = k := fN_eq (by omega) q12 hj
                  have e9 : putF n L fd fc op tn eb ec nz = (L, 0, tn, eb, ec, nI k) := by refine (if_pos hA1).trans ((if_pos (by omega)).trans ?_); rw [q0]
                  rw [e9]
                  refine lv_aload_n hx hb dX2_put_49 rfl (lv_at hl 1 rfl) ?_
                  refine lv_iconst (v := nI 0) hx hb dX2_put_50 (by decide +kernel) ?_
                  refine va_put (D := D) (ci := 3) (v := .int (nI 0)) (ty := .int) (C := RX2) (T := TX2) (N := 12) hx hb hts hinX2 tyX2 tyX2_ok nmX2 hown hK hP hD hS 0 rfl rfl 8 (by decide) (hts (.fieldLink RX2 61 "PuzzleBookModel" "fedLong" "I") (by decide +kernel)) (fun _ h9 => h9) rfl (by decide +kernel) rfl rfl (Nat.le_of_ble_eq_true rfl) dX2_put_51 (fun H locs hP hD hS => ?_)
                  have hP : va_P D vwCl (mW m0 m1 m2 m3 m4 m5 cB cI n L fd 0 op tn eb ec 0) H := hP
                  have hD : va_D A (mW m0 m1 m2 m3 m4 m5 cB cI n L fd 0 op tn eb ec 0) := hD
                  refine lv_iload_n hx hb dX2_put_54 rfl (lv_at hl 0 rfl) ?_
                  exact rt_wi hx hb hr hlocks hP hD hS dX2_put_55 rfl
                · skip
                  refine lv_as (y := nI 0) (congrArg nI (b01_f q12)) ?_
                  refine j0_eq (tgt := 56) hx hb (nI_toInt (n := 0) (by decide)) dX2_put_46 (by decide) (fun c14 => ?_) (fun c14 => absurd c14 (by omega))
                  refine lv_iinc (v := nI (k + 1)) (lv' := [(2, .int (nI (k + 1))), (0, .ref m0), (1, .int nv)]) hx hb dX2_put_56 hl (k := 0) rfl (nI_add _ 1) (by decide) rfl (fun ls hl => ?_)
                  refine lv_goto (tgt := 33) hx hb dX2_put_59 (by decide) ?_
                  exact ih (k + 1) (by omega) (by omega) (fun j q => (Nat.lt_or_eq_of_le (Nat.le_of_lt_succ q)).elim (hj j) (fun q => by rw [q]; exact q12)) H locs hP hD hS ls (lv_sub hl [0, 1, 2] rfl)
          refine lv_iconst (v := nI 0) hx hb dX2_put_31 (by decide +kernel) ?_
          refine lv_istore_n (lv' := [(2, .int (nI 0)), (0, .ref m0), (1, .int nv)]) hx hb dX2_put_32 rfl hl (by decide) rfl (fun ls hl => ?_)
          exact loop (ec + 1) 0 (by omega) (by omega) (fun j q => absurd q (Nat.not_lt_zero j)) H locs hP hD hS ls (lv_sub hl [0, 1, 2] rfl)
        · skip
          have e9 : putF n L fd fc op tn eb ec nz = (L, fc, tn, eb, ec, -1) := if_neg (by omega)
          rw [e9]
          refine lv_iconst (v := -1) hx hb dX2_put_29 (by decide +kernel) ?_
          exact rt_wi hx hb hr hlocks hP hD hS dX2_put_30 rfl
set_option maxRecDepth 100000 in
set_option maxHeartbeats 4000000 in
/-- drop(e) -/
theorem c_X2_drop (l : Launch) (D : va_G) (m0 m1 m2 m3 m4 m5 : Nat) (cB cI : ClassId) (n : Nat) (L : Lg) (fd : Nat → Nat) (fc : Nat) (op : Nat) (tn : Nat) (eb : Nat → Nat) (ec : Nat) (th : Nat) (kv : Int32) (kz : Int) (sz : Nat) (hn0 : 4 ≤ n) (hn : n ≤ 64) (hg : ∀ j, L.1 j < 256) (he : ec ≤ 40) (hE : ∀ k, bO eb ec k < n) (ho : op ≤ 1) (ht : op ≠ 0 → tn = 1 ∨ tn = 2) (h1 : kv.toInt = kz) : Met l yX2_drop wsX2_drop ({ frames := 3, cells := 0, slots := 0, locals := 71 }) (wP [.ref m0, .int kv] D (mW m0 m1 m2 m3 m4 m5 cB cI n L fd fc op tn eb ec th) (ty2 cB cI) sz) (wQi ((dropF L op tn eb ec kz).2.2.2.2) D (mW m0 m1 m2 m3 m4 m5 cB cI n ((dropF L op tn eb ec kz).1) fd fc op ((dropF L op tn eb ec kz).2.1) ((dropF L op tn eb ec kz).2.2.1) ((dropF L op tn eb ec kz).2.2.2.1) 0) (va_A (mW m0 m1 m2 m3 m4 m5 cB cI n L fd fc op tn eb ec th) sz)) 0 0 (va_A (mW m0 m1 m2 m3 m4 m5 cB cI n L fd fc op tn eb ec th) sz) := by
  refine met_wi (by decide) rfl (Nat.le_of_ble_eq_true rfl) ?_
  intro p e s m below meth c hx hb hml hr hlocks hown hts hP hK A hD hA hS ls hl
  have hown : s.vm.findClass RX2 = some m.cls := hown
  have hinX2 : ∀ w ∈ u_ws RX2 TX2 12, w ∈ wsX2_drop := by decide +kernel
  have hl : lv_has ls 3 [(0, .ref m0), (1, .int kv)] := hl
  refine lv_aload_n hx hb dX2_drop_0 rfl (lv_at hl 0 rfl) ?_
  refine lv_iconst (v := nI 0) hx hb dX2_drop_1 (by decide +kernel) ?_
  refine va_put (D := D) (ci := 3) (v := .int (nI 0)) (ty := .int) (C := RX2) (T := TX2) (N := 12) hx hb hts hinX2 tyX2 tyX2_ok nmX2 hown hK hP hD hS 0 rfl rfl 5 (by decide) (hts (.fieldLink RX2 46 "PuzzleBookModel" "thrown" "I") (by decide +kernel)) (fun _ h9 => h9) rfl (by decide +kernel) rfl rfl (Nat.le_of_ble_eq_true rfl) dX2_drop_2 (fun H locs hP hD hS => ?_)
  have hP : va_P D vwCl (mW m0 m1 m2 m3 m4 m5 cB cI n L fd fc op tn eb ec 0) H := hP
  have hD : va_D A (mW m0 m1 m2 m3 m4 m5 cB cI n L fd fc op tn eb ec 0) := hD
  refine lv_aload_n hx hb dX2_drop_5 rfl (lv_at hl 0 rfl) ?_
  refine va_get (D := D) (ci := 3) (v := .int (nI op)) (C := RX2) (T := TX2) (N := 12) hx hb hts hinX2 hown hK hP 0 rfl rfl 2 (by decide) (hts (.fieldLink RX2 32 "PuzzleBookModel" "open" "Z") (by decide +kernel)) (fun _ h9 => h9) rfl dX2_drop_6 ?_
  refine j0_eq (tgt := 24) hx hb (nI_toInt (n := op) (by omega)) dX2_drop_9 (by decide) (fun c1 => ?_) (fun c1 => ?_)
  · skip
    have e9 : dropF L op tn eb ec kz = (L, tn, eb, ec, nI 0) := if_neg (by omega)
    rw [e9]
    refine lv_iconst (v := nI 0) hx hb dX2_drop_24 (by decide +kernel) ?_
    exact rt_wz hx hb hr hlocks hP hD hS dX2_drop_25 (by decide +kernel) rfl
  · skip
    refine lv_iload_n hx hb dX2_drop_12 rfl (lv_at hl 1 rfl) ?_
    refine j0_lt (tgt := 24) hx hb h1 dX2_drop_13 (by decide) (fun c2 => ?_) (fun c2 => ?_)
    · skip
      have e9 : dropF L op tn eb ec kz = (L, tn, eb, ec, nI 0) := if_neg (by omega)
      rw [e9]
      refine lv_iconst (v := nI 0) hx hb dX2_drop_24 (by decide +kernel) ?_
      exact rt_wz hx hb hr hlocks hP hD hS dX2_drop_25 (by decide +kernel) rfl
    · skip
      refine lv_iload_n hx hb dX2_drop_16 rfl (lv_at hl 1 rfl) ?_
      refine lv_aload_n hx hb dX2_drop_17 rfl (lv_at hl 0 rfl) ?_
      refine va_get (D := D) (ci := 3) (v := .int (nI ec)) (C := RX2) (T := TX2) (N := 12) hx hb hts hinX2 hown hK hP 0 rfl rfl 4 (by decide) (hts (.fieldLink RX2 54 "PuzzleBookModel" "entries" "I") (by decide +kernel)) (fun _ h9 => h9) rfl dX2_drop_18 ?_
      refine jb_lt (tgt := 26) hx hb h1 (nI_toInt (n := ec) (by omega)) dX2_drop_21 (by decide) (fun c3 => ?_) (fun c3 => ?_)
      · skip
        have t9 := ht (by omega)
        obtain ⟨i, hi⟩ : ∃ j : Nat, kz = (j : Int) := ⟨kz.toNat, by omega⟩
        have ei : kv = nI i := Int32.toInt_inj.mp (by rw [h1, hi, nI_toInt (by omega)])
        have zi : kz.toNat = i := by omega
        have e9 : dropF L op tn eb ec kz = (w1 (wR (w0 L) (3 - tn) (ec - 1) (bO (shf eb i (ec - 1 - i)) (ec - 1))) (64 * 0 + 0) (3 - tn), 3 - tn, shf eb i (ec - 1 - i), ec - 1, nI 1) := by rw [← zi]; exact if_pos (by omega)
        refine lv_aload_n hx hb dX2_drop_26 rfl (lv_at hl 0 rfl) ?_
        refine lv_iconst (v := nI 0) hx hb dX2_drop_27 (by decide +kernel) ?_
        refine va_put (D := D) (ci := 3) (v := .int (nI 0)) (ty := .int) (C := RX2) (T := TX2) (N := 12) hx hb hts hinX2 tyX2 tyX2_ok nmX2 hown hK hP hD hS 0 rfl rfl 11 (by decide) (hts (.fieldLink RX2 43 "PuzzleBookModel" "written" "I") (by decide +kernel)) (fun _ h9 => h9) rfl (by decide +kernel) rfl rfl (Nat.le_of_ble_eq_true rfl) dX2_drop_28 (fun H locs hP hD hS => ?_)
        have hP : va_P D vwCl (mW m0 m1 m2 m3 m4 m5 cB cI n (L.1, L.2.1, L.2.2.1, 0) fd fc op tn eb ec 0) H := hP
        have hD : va_D A (mW m0 m1 m2 m3 m4 m5 cB cI n (L.1, L.2.1, L.2.2.1, 0) fd fc op tn eb ec 0) := hD
        refine lv_aload_n hx hb dX2_drop_31 rfl (lv_at hl 0 rfl) ?_
        refine lv_iconst (v := nI 3) hx hb dX2_drop_32 (by decide +kernel) ?_
        refine lv_aload_n hx hb dX2_drop_33 rfl (lv_at hl 0 rfl) ?_
        refine va_get (D := D) (ci := 3) (v := .int (nI tn)) (C := RX2) (T := TX2) (N := 12) hx hb hts hinX2 hown hK hP 0 rfl rfl 3 (by decide) (hts (.fieldLink RX2 29 "PuzzleBookModel" "turn" "I") (by decide +kernel)) (fun _ h9 => h9) rfl dX2_drop_34 ?_
        refine lv_isub hx hb dX2_drop_37 ?_
        refine lv_as (y := nI (3 - tn)) (pk_sub (by omega)) ?_
        refine lv_iload_n hx hb dX2_drop_38 rfl (lv_at hl 1 rfl) ?_
        refine lv_as (y := nI i) ei ?_
        refine wr_V (wr := []) (wo := (mW m0 m1 m2 m3 m4 m5 cB cI n (wR (L.1, L.2.1, L.2.2.1, 0) (3 - tn) (ec - 1) (bO (shf eb i (ec - 1 - i)) (ec - 1))) fd fc op tn eb ec 0)) (As := [.int (nI (3 - tn)), .int (nI i)]) (rest := []) ⟨hx, hb, hml, hown, hts⟩ (c_X2_writeRoot_d l D m0 m1 m2 m3 m4 m5 cB cI n (L.1, L.2.1, L.2.2.1, 0) fd fc op tn eb ec 0 (3 - tn) i H.size  he (by omega) (by omega) (by show 0 + 64 ≤ 129; omega)) (cwV 2 hts gX2_drop_X2_writeRoot rfl rfl rfl (by decide +kernel) ⟨Nat.le_of_ble_eq_true rfl, Nat.le_of_ble_eq_true rfl⟩) hK hP hD hS hA [0, 1, 2, 3, 4, 5] [] rfl rfl rfl rfl (by decide) [0, 1, 2, 3, 4, 5] rfl rfl (ci := 3) rfl rfl (q0 := 0) rfl rfl hl.1 rfl (Nat.le_of_ble_eq_true rfl) dX2_drop_39 ⟨Nat.zero_le _, Nat.zero_le _⟩ (fun H locs hP hD hS => ?_)
        refine lv_aload_n hx hb dX2_drop_42 rfl (lv_at hl 0 rfl) ?_
        refine lv_iconst (v := nI 3) hx hb dX2_drop_43 (by decide +kernel) ?_
        refine lv_aload_n hx hb dX2_drop_44 rfl (lv_at hl 0 rfl) ?_
        refine va_get (D := D) (ci := 3) (v := .int (nI tn)) (C := RX2) (T := TX2) (N := 12) hx hb hts hinX2 hown hK hP 0 rfl rfl 3 (by decide) (hts (.fieldLink RX2 29 "PuzzleBookModel" "turn" "I") (by decide +kernel)) (fun _ h9 => h9) rfl dX2_drop_45 ?_
        refine lv_isub hx hb dX2_drop_48 ?_
        refine lv_as (y := nI (3 - tn)) (pk_sub (by omega)) ?_
        refine wr_V (wr := []) (wo := (mW m0 m1 m2 m3 m4 m5 cB cI n (w1 (wR (L.1, L.2.1, L.2.2.1, 0) (3 - tn) (ec - 1) (bO (shf eb i (ec - 1 - i)) (ec - 1))) (64 * 0 + 0) (3 - tn)) fd fc op (3 - tn) eb ec 0)) (As := [.int (nI (3 - tn))]) (rest := []) ⟨hx, hb, hml, hown, hts⟩ (c_X2_turnTo l D m0 m1 m2 m3 m4 m5 cB cI n (wR (L.1, L.2.1, L.2.2.1, 0) (3 - tn) (ec - 1) (bO (shf eb i (ec - 1 - i)) (ec - 1))) fd fc op tn eb ec 0 (3 - tn) H.size  (by rw [wR_c]; show 0 + 64 < 129; omega)) (cwV 1 hts gX2_drop_X2_turnTo rfl rfl rfl (by decide +kernel) ⟨Nat.le_of_ble_eq_true rfl, Nat.le_of_ble_eq_true rfl⟩) hK hP hD hS hA [0, 1, 2, 3, 4, 5] [] rfl rfl rfl rfl (by decide) [0, 1, 2, 3, 4, 5] rfl rfl (ci := 3) rfl rfl (q0 := 0) rfl rfl hl.1 rfl (Nat.le_of_ble_eq_true rfl) dX2_drop_49 ⟨Nat.zero_le _, Nat.zero_le _⟩ (fun H locs hP hD hS => ?_)
        refine lv_aload_n hx hb dX2_drop_52 rfl (lv_at hl 0 rfl) ?_
        refine lv_dup hx hb dX2_drop_53 rfl ?_
        refine va_get (D := D) (ci := 3) (v := .int (nI ec)) (C := RX2) (T := TX2) (N := 12) hx hb hts hinX2 hown hK hP 0 rfl rfl 4 (by decide) (hts (.fieldLink RX2 54 "PuzzleBookModel" "entries" "I") (by decide +kernel)) (fun _ h9 => h9) rfl dX2_drop_54 ?_
        refine lv_iconst (v := nI 1) hx hb dX2_drop_57 (by decide +kernel) ?_
        refine lv_isub hx hb dX2_drop_58 ?_
        refine lv_as (y := nI (ec - 1)) (pk_sub (by omega)) ?_
        refine va_put (D := D) (ci := 3) (v := .int (nI (ec - 1))) (ty := .int) (C := RX2) (T := TX2) (N := 12) hx hb hts hinX2 tyX2 tyX2_ok nmX2 hown hK hP hD hS 0 rfl rfl 4 (by decide) (hts (.fieldLink RX2 54 "PuzzleBookModel" "entries" "I") (by decide +kernel)) (fun _ h9 => h9) rfl (by decide +kernel) rfl rfl (Nat.le_of_ble_eq_true rfl) dX2_drop_59 (fun H locs hP hD hS => ?_)
        have hP : va_P D vwCl (mW m0 m1 m2 m3 m4 m5 cB cI n (w1 (wR (L.1, L.2.1, L.2.2.1, 0) (3 - tn) (ec - 1) (bO (shf eb i (ec - 1 - i)) (ec - 1))) (64 * 0 + 0) (3 - tn)) fd fc op (3 - tn) eb (ec - 1) 0) H := hP
        have hD : va_D A (mW m0 m1 m2 m3 m4 m5 cB cI n (w1 (wR (L.1, L.2.1, L.2.2.1, 0) (3 - tn) (ec - 1) (bO (shf eb i (ec - 1 - i)) (ec - 1))) (64 * 0 + 0) (3 - tn)) fd fc op (3 - tn) eb (ec - 1) 0) := hD
        refine lv_iload_n hx hb dX2_drop_62 rfl (lv_at hl 1 rfl) ?_
        refine lv_istore_n (lv' := [(2, .int kv), (0, .ref m0), (1, .int kv)]) hx hb dX2_drop_63 rfl hl (by decide) rfl (fun ls hl => ?_)
        have loop : ∀ (fu j : Nat), i + j ≤ ec - 1 → ec - 1 - (i + j) < fu → ∀ (H : Heap) (locs : List Loc), va_P D vwCl (mW m0 m1 m2 m3 m4 m5 cB cI n (w1 (wR (L.1, L.2.1, L.2.2.1, 0) (3 - tn) (ec - 1) (bO (shf eb i (ec - 1 - i)) (ec - 1))) (64 * 0 + 0) (3 - tn)) fd fc op (3 - tn) (shf eb i j) (ec - 1) 0) H → va_D A (mW m0 m1 m2 m3 m4 m5 cB cI n (w1 (wR (L.1, L.2.1, L.2.2.1, 0) (3 - tn) (ec - 1) (bO (shf eb i (ec - 1 - i)) (ec - 1))) (64 * 0 + 0) (3 - tn)) fd fc op (3 - tn) (shf eb i j) (ec - 1) 0) → va_S A s.heap H locs → ∀ ls : Array Slot, lv_has ls 3 [(2, .int (nI (i + j))), (0, .ref m0), (1, .int kv)] → W p l e ({ frames := 3, cells := 0, slots := 0, locals := 71 }) s m [.ref m0, .int kv].toArray below meth c H locs 0 0 (MQ below (wQi ((dropF L op tn eb ec kz).2.2.2.2) D (mW m0 m1 m2 m3 m4 m5 cB cI n ((dropF L op tn eb ec kz).1) fd fc op ((dropF L op tn eb ec kz).2.1) ((dropF L op tn eb ec kz).2.2.1) ((dropF L op tn eb ec kz).2.2.2.1) 0) A) [.ref m0, .int kv].toArray s 0 0 A) (F0 m 64 ls []) := by
          intro fu
          induction fu with
          | zero => intro j hj hf; omega
          | succ fu ih =>
            intro j hj hf H locs hP hD hS ls hl
            refine lv_iload_n hx hb dX2_drop_64 rfl (lv_at hl 0 rfl) ?_
            refine lv_aload_n hx hb dX2_drop_65 rfl (lv_at hl 1 rfl) ?_
            refine va_get (D := D) (ci := 3) (v := .int (nI (ec - 1))) (C := RX2) (T := TX2) (N := 12) hx hb hts hinX2 hown hK hP 0 rfl rfl 4 (by decide) (hts (.fieldLink RX2 54 "PuzzleBookModel" "entries" "I") (by decide +kernel)) (fun _ h9 => h9) rfl dX2_drop_66 ?_
            refine jb_ge (tgt := 92) hx hb (nI_toInt (n := i + j) (by omega)) (nI_toInt (n := ec - 1) (by omega)) dX2_drop_69 (by decide) (fun c4 => ?_) (fun c4 => ?_)
            · skip
              refine lv_iconst (v := nI 1) hx hb dX2_drop_92 (by decide +kernel) ?_
              have k9 : ec - 1 - i = j := by omega
              rw [e9]
              have hP : va_P D vwCl (mW m0 m1 m2 m3 m4 m5 cB cI n (w1 (wR (L.1, L.2.1, L.2.2.1, 0) (3 - tn) (ec - 1) (bO (shf eb i (ec - 1 - i)) (ec - 1))) (64 * 0 + 0) (3 - tn)) fd fc op (3 - tn) (shf eb i j) (ec - 1) 0) H := hP
              rw [← k9] at hP hD
              exact rt_wz hx hb hr hlocks hP hD hS dX2_drop_93 (by decide +kernel) rfl
            · skip
              refine lv_aload_n hx hb dX2_drop_72 rfl (lv_at hl 1 rfl) ?_
              refine va_get (D := D) (ci := 3) (v := .ref m2) (C := RX2) (T := TX2) (N := 12) hx hb hts hinX2 hown hK hP 0 rfl rfl 6 (by decide) (hts (.fieldLink RX2 13 "PuzzleBookModel" "block" "[I") (by decide +kernel)) (fun _ h9 => h9) rfl dX2_drop_73 ?_
              refine lv_iload_n hx hb dX2_drop_76 rfl (lv_at hl 0 rfl) ?_
              refine lv_aload_n hx hb dX2_drop_77 rfl (lv_at hl 1 rfl) ?_
              refine va_get (D := D) (ci := 3) (v := .ref m2) (C := RX2) (T := TX2) (N := 12) hx hb hts hinX2 hown hK hP 0 rfl rfl 6 (by decide) (hts (.fieldLink RX2 13 "PuzzleBookModel" "block" "[I") (by decide +kernel)) (fun _ h9 => h9) rfl dX2_drop_78 ?_
              refine lv_iload_n hx hb dX2_drop_81 rfl (lv_at hl 0 rfl) ?_
              refine lv_iconst (v := nI 1) hx hb dX2_drop_82 (by decide +kernel) ?_
              refine lv_iadd hx hb dX2_drop_83 ?_
              refine lv_as (y := nI ((i + j) + 1)) (nI_add _ _) ?_
              refine ld_i (f := shf eb i j) (k := (i + j) + 1) hx hb hK hP 2 1 rfl rfl (by omega) (by decide) dX2_drop_84 ?_
              refine st_i (f := shf eb i j) (k := i + j) (x := (shf eb i j) ((i + j) + 1)) hx hb hK hP hD hS 2 1 rfl rfl (by omega) (by decide) dX2_drop_85 (fun H locs hP hD hS => ?_)
              have hP : va_P D vwCl (mW m0 m1 m2 m3 m4 m5 cB cI n (w1 (wR (L.1, L.2.1, L.2.2.1, 0) (3 - tn) (ec - 1) (bO (shf eb i (ec - 1 - i)) (ec - 1))) (64 * 0 + 0) (3 - tn)) fd fc op (3 - tn) (va_up (shf eb i j) (i + j) ((shf eb i j) ((i + j) + 1))) (ec - 1) 0) H := hP
              have hD : va_D A (mW m0 m1 m2 m3 m4 m5 cB cI n (w1 (wR (L.1, L.2.1, L.2.2.1, 0) (3 - tn) (ec - 1) (bO (shf eb i (ec - 1 - i)) (ec - 1))) (64 * 0 + 0) (3 - tn)) fd fc op (3 - tn) (va_up (shf eb i j) (i + j) ((shf eb i j) ((i + j) + 1))) (ec - 1) 0) := hD
              refine lv_iinc (v := nI (i + j + 1)) (lv' := [(2, .int (nI (i + j + 1))), (0, .ref m0), (1, .int kv)]) hx hb dX2_drop_86 hl (k := 0) rfl (nI_add _ 1) (by decide) rfl (fun ls hl => ?_)
              refine lv_goto (tgt := 64) hx hb dX2_drop_89 (by decide) ?_
              exact ih (j + 1) (by omega) (by omega) H locs hP hD hS ls (lv_sub hl [0, 1, 2] rfl)
        exact loop (ec + 1) 0 (by omega) (by omega) H locs hP hD hS ls (by rw [ei] at hl ⊢; exact lv_sub hl [0, 1, 2] rfl)
      · skip
        have e9 : dropF L op tn eb ec kz = (L, tn, eb, ec, nI 0) := if_neg (by omega)
        rw [e9]
        refine lv_iconst (v := nI 0) hx hb dX2_drop_24 (by decide +kernel) ?_
        exact rt_wz hx hb hr hlocks hP hD hS dX2_drop_25 (by decide +kernel) rfl
set_option maxRecDepth 100000 in
set_option maxHeartbeats 4000000 in
/-- find(name, i) -/
theorem c_X2_find (l : Launch) (D : va_G) (m0 m1 m2 m3 m4 m5 : Nat) (cB cI : ClassId) (n : Nat) (L : Lg) (fd : Nat → Nat) (fc : Nat) (op : Nat) (tn : Nat) (eb : Nat → Nat) (ec : Nat) (th : Nat) (nv iv : Int32) (nz iz : Int) (sz : Nat) (hn : n ≤ 64) (hg : ∀ j, L.1 j < 256) (he : ec ≤ 40) (hE : ∀ k, bO eb ec k < n) (ho : op ≤ 1) (h1 : nv.toInt = nz) (h2 : iv.toInt = iz) : Met l yX2_find wsX2_find ({ frames := 1, cells := 0, slots := 0, locals := 21 }) (wP [.ref m0, .int nv, .int iv] D (mW m0 m1 m2 m3 m4 m5 cB cI n L fd fc op tn eb ec th) (ty2 cB cI) sz) (wQi ((q_find L.1 (bO eb ec) op ec nz iz)) D (mW m0 m1 m2 m3 m4 m5 cB cI n L fd fc op tn eb ec 0) (va_A (mW m0 m1 m2 m3 m4 m5 cB cI n L fd fc op tn eb ec th) sz)) 0 0 (va_A (mW m0 m1 m2 m3 m4 m5 cB cI n L fd fc op tn eb ec th) sz) := by
  refine met_wi (by decide) rfl (Nat.le_of_ble_eq_true rfl) ?_
  intro p e s m below meth c hx hb hml hr hlocks hown hts hP hK A hD hA hS ls hl
  have hown : s.vm.findClass RX2 = some m.cls := hown
  have hinX2 : ∀ w ∈ u_ws RX2 TX2 12, w ∈ wsX2_find := by decide +kernel
  have hl : lv_has ls 4 [(0, .ref m0), (1, .int nv), (2, .int iv)] := hl
  refine lv_aload_n hx hb dX2_find_0 rfl (lv_at hl 0 rfl) ?_
  refine lv_iconst (v := nI 0) hx hb dX2_find_1 (by decide +kernel) ?_
  refine va_put (D := D) (ci := 3) (v := .int (nI 0)) (ty := .int) (C := RX2) (T := TX2) (N := 12) hx hb hts hinX2 tyX2 tyX2_ok nmX2 hown hK hP hD hS 0 rfl rfl 5 (by decide) (hts (.fieldLink RX2 46 "PuzzleBookModel" "thrown" "I") (by decide +kernel)) (fun _ h9 => h9) rfl (by decide +kernel) rfl rfl (Nat.le_of_ble_eq_true rfl) dX2_find_2 (fun H locs hP hD hS => ?_)
  have hP : va_P D vwCl (mW m0 m1 m2 m3 m4 m5 cB cI n L fd fc op tn eb ec 0) H := hP
  have hD : va_D A (mW m0 m1 m2 m3 m4 m5 cB cI n L fd fc op tn eb ec 0) := hD
  refine lv_aload_n hx hb dX2_find_5 rfl (lv_at hl 0 rfl) ?_
  refine va_get (D := D) (ci := 3) (v := .int (nI op)) (C := RX2) (T := TX2) (N := 12) hx hb hts hinX2 hown hK hP 0 rfl rfl 2 (by decide) (hts (.fieldLink RX2 32 "PuzzleBookModel" "open" "Z") (by decide +kernel)) (fun _ h9 => h9) rfl dX2_find_6 ?_
  refine j0_ne (tgt := 14) hx hb (nI_toInt (n := op) (by omega)) dX2_find_9 (by decide) (fun c1 => ?_) (fun c1 => ?_)
  · skip
    have loop : ∀ (fu t : Nat), t ≤ ec → t < fu → fdF L.1 (bO eb ec) nz iz ec = fdF L.1 (bO eb ec) nz iz t → ∀ (H : Heap) (locs : List Loc), va_P D vwCl (mW m0 m1 m2 m3 m4 m5 cB cI n L fd fc op tn eb ec 0) H → va_D A (mW m0 m1 m2 m3 m4 m5 cB cI n L fd fc op tn eb ec 0) → va_S A s.heap H locs → ∀ ls : Array Slot, lv_has ls 4 [(3, .int (nI t - nI 1)), (0, .ref m0), (1, .int nv), (2, .int iv)] → W p l e ({ frames := 1, cells := 0, slots := 0, locals := 21 }) s m [.ref m0, .int nv, .int iv].toArray below meth c H locs 0 0 (MQ below (wQi ((q_find L.1 (bO eb ec) op ec nz iz)) D (mW m0 m1 m2 m3 m4 m5 cB cI n L fd fc op tn eb ec 0) A) [.ref m0, .int nv, .int iv].toArray s 0 0 A) (F0 m 21 ls []) := by
      intro fu
      induction fu with
      | zero => intro t hm hf; omega
      | succ fu ih =>
        intro t hm hfu hq H locs hP hD hS ls hl
        refine lv_iload_n hx hb dX2_find_21 rfl (lv_at hl 0 rfl) ?_
        refine j0_lt (tgt := 82) hx hb (m1_toInt (by omega)) dX2_find_22 (by decide) (fun c2 => ?_) (fun c2 => ?_)
        · skip
          refine lv_iconst (v := -1) hx hb dX2_find_82 (by decide +kernel) ?_
          have hk9 : 0 = t := by omega
          subst hk9
          exact rt_wi hx hb hr hlocks hP hD hS dX2_find_83 (by unfold q_find; rw [if_neg (by omega), hq]; rfl)
        · skip
          refine lv_aload_n hx hb dX2_find_25 rfl (lv_at hl 1 rfl) ?_
          refine lv_iload_n hx hb dX2_find_26 rfl (lv_at hl 0 rfl) ?_
          refine lv_as (y := nI (t - 1)) (pk_sub (by omega)) ?_
          refine rd_V (As := [.int (nI (t - 1))]) (rest := []) ⟨hx, hb, hml, hown, hts⟩ (c_X2_nameOf l D m0 m1 m2 m3 m4 m5 cB cI n L fd fc op tn eb ec 0 (t - 1) hn hg he hE (by omega)) (cwV 1 hts gX2_find_X2_nameOf rfl rfl rfl (by decide +kernel) ⟨Nat.le_of_ble_eq_true rfl, Nat.le_of_ble_eq_true rfl⟩) hK hP [0, 1, 2, 3, 4, 5] rfl (ci := 3) rfl rfl (q0 := 0) rfl rfl hl.1 rfl (Nat.le_of_ble_eq_true rfl) dX2_find_27 ⟨Nat.zero_le _, Nat.zero_le _⟩ (fun r3 hr3 => ?_)
          subst hr3
          have m9 : nmO L.1 (bO eb ec (t - 1)) < 65536 := nmO_lt hg _
          refine lv_iload_n hx hb dX2_find_30 rfl (lv_at hl 2 rfl) ?_
          refine jb_ne (tgt := 76) hx hb (nI_toInt (n := nmO L.1 (bO eb ec (t - 1))) (by omega)) h1 dX2_find_31 (by decide) (fun c4 => ?_) (fun c4 => ?_)
          · skip
            refine lv_iinc (v := (nI (t - 1) - nI 1)) (lv' := [(3, .int (nI (t - 1) - nI 1)), (0, .ref m0), (1, .int nv), (2, .int iv)]) hx hb dX2_find_76 hl (k := 0) rfl (m1_dec (by omega)) (by decide) rfl (fun ls hl => ?_)
            refine lv_goto (tgt := 21) hx hb dX2_find_79 (by decide) ?_
            exact ih (t - 1) (by omega) (by omega) (hq.trans (fdF_f (by omega) c4)) H locs hP hD hS ls (lv_sub hl [0, 1, 2, 3] rfl)
          · skip
            have g9 := hg (64 * bO eb ec (t - 1) + 2)
            refine lv_iload_n hx hb dX2_find_34 rfl (lv_at hl 3 rfl) ?_
            refine j0_lt (tgt := 53) hx hb h2 dX2_find_35 (by decide) (fun c5 => ?_) (fun c5 => ?_)
            · skip
              refine lv_iconst (v := -1) hx hb dX2_find_53 (by decide +kernel) ?_
              refine lv_goto (tgt := 75) hx hb dX2_find_54 (by decide) ?_
              exact rt_wi hx hb hr hlocks hP hD hS dX2_find_75 (by unfold q_find; rw [if_neg (by omega), hq, fdF_t (by omega) c4]; unfold rwB; rw [if_neg (by omega)])
            · skip
              refine lv_iload_n hx hb dX2_find_38 rfl (lv_at hl 3 rfl) ?_
              refine lv_aload_n hx hb dX2_find_39 rfl (lv_at hl 1 rfl) ?_
              refine lv_iload_n hx hb dX2_find_40 rfl (lv_at hl 0 rfl) ?_
              refine lv_as (y := nI (t - 1)) (pk_sub (by omega)) ?_
              refine rd_V (As := [.int (nI (t - 1))]) (rest := [.int iv]) ⟨hx, hb, hml, hown, hts⟩ (c_X2_longOf l D m0 m1 m2 m3 m4 m5 cB cI n L fd fc op tn eb ec 0 (t - 1) hn hg he hE (by omega)) (cwV 1 hts gX2_find_X2_longOf rfl rfl rfl (by decide +kernel) ⟨Nat.le_of_ble_eq_true rfl, Nat.le_of_ble_eq_true rfl⟩) hK hP [0, 1, 2, 3, 4, 5] rfl (ci := 3) rfl rfl (q0 := 0) rfl rfl hl.1 rfl (Nat.le_of_ble_eq_true rfl) dX2_find_41 ⟨Nat.zero_le _, Nat.zero_le _⟩ (fun r6 hr6 => ?_)
              subst hr6
              refine jb_ge (tgt := 53) hx hb h2 (nI_toInt (n := L.1 (64 * bO eb ec (t - 1) + 2)) (by omega)) dX2_find_44 (by decide) (fun c7 => ?_) (fun c7 => ?_)
              · skip
                refine lv_iconst (v := -1) hx hb dX2_find_53 (by decide +kernel) ?_
                refine lv_goto (tgt := 75) hx hb dX2_find_54 (by decide) ?_
                exact rt_wi hx hb hr hlocks hP hD hS dX2_find_75 (by unfold q_find; rw [if_neg (by omega), hq, fdF_t (by omega) c4]; unfold rwB; rw [if_neg (by omega)])
              · skip
                refine lv_iload_n hx hb dX2_find_47 rfl (lv_at hl 3 rfl) ?_
                refine lv_bipush (v := nI 48) hx hb dX2_find_48 (by decide +kernel) ?_
                refine jb_lt (tgt := 57) hx hb h2 (nI_toInt (n := 48) (by decide)) dX2_find_50 (by decide) (fun c8 => ?_) (fun c8 => ?_)
                · skip
                  obtain ⟨i, hi⟩ : ∃ j : Nat, iz = (j : Int) := ⟨iz.toNat, by omega⟩
                  have ei : iv = nI i := Int32.toInt_inj.mp (by rw [h2, hi, nI_toInt (by omega)])
                  have zi : iz.toNat = i := by omega
                  have e9 := hE (t - 1)
                  refine lv_aload_n hx hb dX2_find_57 rfl (lv_at hl 1 rfl) ?_
                  refine va_get (D := D) (ci := 3) (v := .ref m1) (C := RX2) (T := TX2) (N := 12) hx hb hts hinX2 hown hK hP 0 rfl rfl 1 (by decide) (hts (.fieldLink RX2 7 "PuzzleBookModel" "store" "[I") (by decide +kernel)) (fun _ h9 => h9) rfl dX2_find_58 ?_
                  refine lv_bipush (v := nI 64) hx hb dX2_find_61 (by decide +kernel) ?_
                  refine lv_aload_n hx hb dX2_find_63 rfl (lv_at hl 1 rfl) ?_
                  refine va_get (D := D) (ci := 3) (v := .ref m2) (C := RX2) (T := TX2) (N := 12) hx hb hts hinX2 hown hK hP 0 rfl rfl 6 (by decide) (hts (.fieldLink RX2 13 "PuzzleBookModel" "block" "[I") (by decide +kernel)) (fun _ h9 => h9) rfl dX2_find_64 ?_
                  refine lv_iload_n hx hb dX2_find_67 rfl (lv_at hl 0 rfl) ?_
                  refine lv_as (y := nI (t - 1)) (pk_sub (by omega)) ?_
                  refine ld_i (f := eb) (k := t - 1) hx hb hK hP 2 1 rfl rfl (by omega) (by decide) dX2_find_68 ?_
                  refine lv_as (y := nI (bO eb ec (t - 1))) (congrArg nI (bO_t (by omega)).symm) ?_
                  refine lv_imul hx hb dX2_find_69 ?_
                  refine lv_as (y := nI (64 * (bO eb ec (t - 1)))) (pk_mul _ _) ?_
                  refine lv_iconst (v := nI 3) hx hb dX2_find_70 (by decide +kernel) ?_
                  refine lv_iadd hx hb dX2_find_71 ?_
                  refine lv_as (y := nI ((64 * (bO eb ec (t - 1))) + 3)) (nI_add _ _) ?_
                  refine lv_iload_n hx hb dX2_find_72 rfl (lv_at hl 3 rfl) ?_
                  refine lv_as (y := nI i) ei ?_
                  refine lv_iadd hx hb dX2_find_73 ?_
                  refine lv_as (y := nI (((64 * (bO eb ec (t - 1))) + 3) + i)) (nI_add _ _) ?_
                  refine lv_as (y := nI (64 * bO eb ec (t - 1) + (3 + i))) (congrArg nI (by omega)) ?_
                  refine ld_i (f := L.1) (k := 64 * bO eb ec (t - 1) + (3 + i)) hx hb hK hP 1 1 rfl rfl (by omega) (by decide) dX2_find_74 ?_
                  exact rt_wi hx hb hr hlocks hP hD hS dX2_find_75 (by unfold q_find; rw [if_neg (by omega), hq, fdF_t (by omega) c4]; unfold rwB; rw [if_pos (by omega), zi])
                · skip
                  refine lv_iconst (v := -1) hx hb dX2_find_53 (by decide +kernel) ?_
                  refine lv_goto (tgt := 75) hx hb dX2_find_54 (by decide) ?_
                  exact rt_wi hx hb hr hlocks hP hD hS dX2_find_75 (by unfold q_find; rw [if_neg (by omega), hq, fdF_t (by omega) c4]; unfold rwB; rw [if_neg (by omega)])
    refine lv_aload_n hx hb dX2_find_14 rfl (lv_at hl 0 rfl) ?_
    refine va_get (D := D) (ci := 3) (v := .int (nI ec)) (C := RX2) (T := TX2) (N := 12) hx hb hts hinX2 hown hK hP 0 rfl rfl 4 (by decide) (hts (.fieldLink RX2 54 "PuzzleBookModel" "entries" "I") (by decide +kernel)) (fun _ h9 => h9) rfl dX2_find_15 ?_
    refine lv_iconst (v := nI 1) hx hb dX2_find_18 (by decide +kernel) ?_
    refine lv_isub hx hb dX2_find_19 ?_
    refine lv_istore_n (lv' := [(3, .int (nI ec - nI 1)), (0, .ref m0), (1, .int nv), (2, .int iv)]) hx hb dX2_find_20 rfl hl (by decide) rfl (fun ls hl => ?_)
    exact loop (ec + 1) ec (by omega) (by omega) rfl H locs hP hD hS ls (lv_sub hl [0, 1, 2, 3] rfl)
  · skip
    refine lv_iconst (v := -1) hx hb dX2_find_12 (by decide +kernel) ?_
    exact rt_wi hx hb hr hlocks hP hD hS dX2_find_13 (by unfold q_find; rw [if_pos (by omega)])
set_option maxRecDepth 100000 in
set_option maxHeartbeats 4000000 in
/-- entry(k, what) -/
theorem c_X2_entry (l : Launch) (D : va_G) (m0 m1 m2 m3 m4 m5 : Nat) (cB cI : ClassId) (n : Nat) (L : Lg) (fd : Nat → Nat) (fc : Nat) (op : Nat) (tn : Nat) (eb : Nat → Nat) (ec : Nat) (th : Nat) (kv wv : Int32) (kz wz : Int) (sz : Nat) (hn : n ≤ 64) (hg : ∀ j, L.1 j < 256) (he : ec ≤ 40) (hE : ∀ k, bO eb ec k < n) (ho : op ≤ 1) (h1 : kv.toInt = kz) (h2 : wv.toInt = wz) : Met l yX2_entry wsX2_entry ({ frames := 1, cells := 0, slots := 0, locals := 21 }) (wP [.ref m0, .int kv, .int wv] D (mW m0 m1 m2 m3 m4 m5 cB cI n L fd fc op tn eb ec th) (ty2 cB cI) sz) (wQi ((q_entry L.1 (bO eb ec) op ec kz wz)) D (mW m0 m1 m2 m3 m4 m5 cB cI n L fd fc op tn eb ec 0) (va_A (mW m0 m1 m2 m3 m4 m5 cB cI n L fd fc op tn eb ec th) sz)) 0 0 (va_A (mW m0 m1 m2 m3 m4 m5 cB cI n L fd fc op tn eb ec th) sz) := by
  refine met_wi (by decide) rfl (Nat.le_of_ble_eq_true rfl) ?_
  intro p e s m below meth c hx hb hml hr hlocks hown hts hP hK A hD hA hS ls hl
  have hown : s.vm.findClass RX2 = some m.cls := hown
  have hinX2 : ∀ w ∈ u_ws RX2 TX2 12, w ∈ wsX2_entry := by decide +kernel
  have hl : lv_has ls 3 [(0, .ref m0), (1, .int kv), (2, .int wv)] := hl
  refine lv_aload_n hx hb dX2_entry_0 rfl (lv_at hl 0 rfl) ?_
  refine lv_iconst (v := nI 0) hx hb dX2_entry_1 (by decide +kernel) ?_
  refine va_put (D := D) (ci := 3) (v := .int (nI 0)) (ty := .int) (C := RX2) (T := TX2) (N := 12) hx hb hts hinX2 tyX2 tyX2_ok nmX2 hown hK hP hD hS 0 rfl rfl 5 (by decide) (hts (.fieldLink RX2 46 "PuzzleBookModel" "thrown" "I") (by decide +kernel)) (fun _ h9 => h9) rfl (by decide +kernel) rfl rfl (Nat.le_of_ble_eq_true rfl) dX2_entry_2 (fun H locs hP hD hS => ?_)
  have hP : va_P D vwCl (mW m0 m1 m2 m3 m4 m5 cB cI n L fd fc op tn eb ec 0) H := hP
  have hD : va_D A (mW m0 m1 m2 m3 m4 m5 cB cI n L fd fc op tn eb ec 0) := hD
  refine lv_aload_n hx hb dX2_entry_5 rfl (lv_at hl 0 rfl) ?_
  refine va_get (D := D) (ci := 3) (v := .int (nI op)) (C := RX2) (T := TX2) (N := 12) hx hb hts hinX2 hown hK hP 0 rfl rfl 2 (by decide) (hts (.fieldLink RX2 32 "PuzzleBookModel" "open" "Z") (by decide +kernel)) (fun _ h9 => h9) rfl dX2_entry_6 ?_
  refine j0_eq (tgt := 24) hx hb (nI_toInt (n := op) (by omega)) dX2_entry_9 (by decide) (fun c1 => ?_) (fun c1 => ?_)
  · skip
    refine lv_iconst (v := -1) hx hb dX2_entry_24 (by decide +kernel) ?_
    exact rt_wi hx hb hr hlocks hP hD hS dX2_entry_25 (by unfold q_entry; rw [if_neg (by omega)])
  · skip
    refine lv_iload_n hx hb dX2_entry_12 rfl (lv_at hl 1 rfl) ?_
    refine j0_lt (tgt := 24) hx hb h1 dX2_entry_13 (by decide) (fun c2 => ?_) (fun c2 => ?_)
    · skip
      refine lv_iconst (v := -1) hx hb dX2_entry_24 (by decide +kernel) ?_
      exact rt_wi hx hb hr hlocks hP hD hS dX2_entry_25 (by unfold q_entry; rw [if_neg (by omega)])
    · skip
      refine lv_iload_n hx hb dX2_entry_16 rfl (lv_at hl 1 rfl) ?_
      refine lv_aload_n hx hb dX2_entry_17 rfl (lv_at hl 0 rfl) ?_
      refine va_get (D := D) (ci := 3) (v := .int (nI ec)) (C := RX2) (T := TX2) (N := 12) hx hb hts hinX2 hown hK hP 0 rfl rfl 4 (by decide) (hts (.fieldLink RX2 54 "PuzzleBookModel" "entries" "I") (by decide +kernel)) (fun _ h9 => h9) rfl dX2_entry_18 ?_
      refine jb_lt (tgt := 26) hx hb h1 (nI_toInt (n := ec) (by omega)) dX2_entry_21 (by decide) (fun c3 => ?_) (fun c3 => ?_)
      · skip
        obtain ⟨i, hi⟩ : ∃ j : Nat, kz = (j : Int) := ⟨kz.toNat, by omega⟩
        have ei : kv = nI i := Int32.toInt_inj.mp (by rw [h1, hi, nI_toInt (by omega)])
        have zi : kz.toNat = i := by omega
        refine lv_iload_n hx hb dX2_entry_26 rfl (lv_at hl 2 rfl) ?_
        refine j0_ne (tgt := 38) hx hb h2 dX2_entry_27 (by decide) (fun c4 => ?_) (fun c4 => ?_)
        · skip
          refine lv_iload_n hx hb dX2_entry_38 rfl (lv_at hl 2 rfl) ?_
          refine lv_iconst (v := nI 1) hx hb dX2_entry_39 (by decide +kernel) ?_
          refine jb_ne (tgt := 52) hx hb h2 (nI_toInt (n := 1) (by decide)) dX2_entry_40 (by decide) (fun c5 => ?_) (fun c5 => ?_)
          · skip
            refine lv_iload_n hx hb dX2_entry_52 rfl (lv_at hl 2 rfl) ?_
            refine lv_iconst (v := nI 2) hx hb dX2_entry_53 (by decide +kernel) ?_
            refine jb_ne (tgt := 65) hx hb h2 (nI_toInt (n := 2) (by decide)) dX2_entry_54 (by decide) (fun c6 => ?_) (fun c6 => ?_)
            · skip
              refine lv_iconst (v := -1) hx hb dX2_entry_65 (by decide +kernel) ?_
              exact rt_wi hx hb hr hlocks hP hD hS dX2_entry_66 (by unfold q_entry; rw [if_pos (by omega), if_neg (by omega), if_neg (by omega), if_neg (by omega)])
            · skip
              refine lv_aload_n hx hb dX2_entry_57 rfl (lv_at hl 0 rfl) ?_
              refine lv_iload_n hx hb dX2_entry_58 rfl (lv_at hl 1 rfl) ?_
              refine lv_as (y := nI i) ei ?_
              refine rd_V (As := [.int (nI i)]) (rest := []) ⟨hx, hb, hml, hown, hts⟩ (c_X2_longOf l D m0 m1 m2 m3 m4 m5 cB cI n L fd fc op tn eb ec 0 i hn hg he hE (by omega)) (cwV 1 hts gX2_entry_X2_longOf rfl rfl rfl (by decide +kernel) ⟨Nat.le_of_ble_eq_true rfl, Nat.le_of_ble_eq_true rfl⟩) hK hP [0, 1, 2, 3, 4, 5] rfl (ci := 3) rfl rfl (q0 := 0) rfl rfl hl.1 rfl (Nat.le_of_ble_eq_true rfl) dX2_entry_59 ⟨Nat.zero_le _, Nat.zero_le _⟩ (fun r7 hr7 => ?_)
              subst hr7
              refine lv_goto (tgt := 66) hx hb dX2_entry_62 (by decide) ?_
              exact rt_wi hx hb hr hlocks hP hD hS dX2_entry_66 (by unfold q_entry; rw [if_pos (by omega), if_neg (by omega), if_neg (by omega), if_pos (by omega), zi])
          · skip
            refine lv_aload_n hx hb dX2_entry_43 rfl (lv_at hl 0 rfl) ?_
            refine va_get (D := D) (ci := 3) (v := .ref m2) (C := RX2) (T := TX2) (N := 12) hx hb hts hinX2 hown hK hP 0 rfl rfl 6 (by decide) (hts (.fieldLink RX2 13 "PuzzleBookModel" "block" "[I") (by decide +kernel)) (fun _ h9 => h9) rfl dX2_entry_44 ?_
            refine lv_iload_n hx hb dX2_entry_47 rfl (lv_at hl 1 rfl) ?_
            refine lv_as (y := nI i) ei ?_
            refine ld_i (f := eb) (k := i) hx hb hK hP 2 1 rfl rfl (by omega) (by decide) dX2_entry_48 ?_
            refine lv_as (y := nI (bO eb ec i)) (congrArg nI (bO_t (by omega)).symm) ?_
            refine lv_goto (tgt := 66) hx hb dX2_entry_49 (by decide) ?_
            exact rt_wi hx hb hr hlocks hP hD hS dX2_entry_66 (by unfold q_entry; rw [if_pos (by omega), if_neg (by omega), if_pos (by omega), zi])
        · skip
          refine lv_aload_n hx hb dX2_entry_30 rfl (lv_at hl 0 rfl) ?_
          refine lv_iload_n hx hb dX2_entry_31 rfl (lv_at hl 1 rfl) ?_
          refine lv_as (y := nI i) ei ?_
          refine rd_V (As := [.int (nI i)]) (rest := []) ⟨hx, hb, hml, hown, hts⟩ (c_X2_nameOf l D m0 m1 m2 m3 m4 m5 cB cI n L fd fc op tn eb ec 0 i hn hg he hE (by omega)) (cwV 1 hts gX2_entry_X2_nameOf rfl rfl rfl (by decide +kernel) ⟨Nat.le_of_ble_eq_true rfl, Nat.le_of_ble_eq_true rfl⟩) hK hP [0, 1, 2, 3, 4, 5] rfl (ci := 3) rfl rfl (q0 := 0) rfl rfl hl.1 rfl (Nat.le_of_ble_eq_true rfl) dX2_entry_32 ⟨Nat.zero_le _, Nat.zero_le _⟩ (fun r8 hr8 => ?_)
          subst hr8
          refine lv_goto (tgt := 66) hx hb dX2_entry_35 (by decide) ?_
          exact rt_wi hx hb hr hlocks hP hD hS dX2_entry_66 (by unfold q_entry; rw [if_pos (by omega), if_pos (by omega), zi])
      · skip
        refine lv_iconst (v := -1) hx hb dX2_entry_24 (by decide +kernel) ?_
        exact rt_wi hx hb hr hlocks hP hD hS dX2_entry_25 (by unfold q_entry; rw [if_neg (by omega)])
set_option maxRecDepth 100000 in
set_option maxHeartbeats 4000000 in
/-- crash(kept) -/
theorem c_X2_crash (l : Launch) (D : va_G) (m0 m1 m2 m3 m4 m5 : Nat) (cB cI : ClassId) (n : Nat) (L : Lg) (fd : Nat → Nat) (fc : Nat) (op : Nat) (tn : Nat) (eb : Nat → Nat) (ec : Nat) (th : Nat) (kv : Int32) (kz : Int) (sz : Nat) (hn : n ≤ 64) (ho : op ≤ 1) (h2 : L.2.2.2 ≤ 129) (hp : op ≠ 0 → ∀ k, k < L.2.2.2 → L.2.1 k < 64 * n) (h1 : kv.toInt = kz) : Met l yX2_crash wsX2_crash ({ frames := 0, cells := 0, slots := 0, locals := 0 }) (wP [.ref m0, .int kv] D (mW m0 m1 m2 m3 m4 m5 cB cI n L fd fc op tn eb ec th) (ty2 cB cI) sz) (wQi ((mcF L op kz).2.2) D (mW m0 m1 m2 m3 m4 m5 cB cI n ((mcF L op kz).1) fd fc ((mcF L op kz).2.1) tn eb ec 0) (va_A (mW m0 m1 m2 m3 m4 m5 cB cI n L fd fc op tn eb ec th) sz)) 0 0 (va_A (mW m0 m1 m2 m3 m4 m5 cB cI n L fd fc op tn eb ec th) sz) := by
  refine met_wi (by decide) rfl (Nat.le_of_ble_eq_true rfl) ?_
  intro p e s m below meth c hx hb hml hr hlocks hown hts hP hK A hD hA hS ls hl
  have hown : s.vm.findClass RX2 = some m.cls := hown
  have hinX2 : ∀ w ∈ u_ws RX2 TX2 12, w ∈ wsX2_crash := by decide +kernel
  have hl : lv_has ls 3 [(0, .ref m0), (1, .int kv)] := hl
  refine lv_aload_n hx hb dX2_crash_0 rfl (lv_at hl 0 rfl) ?_
  refine lv_iconst (v := nI 0) hx hb dX2_crash_1 (by decide +kernel) ?_
  refine va_put (D := D) (ci := 3) (v := .int (nI 0)) (ty := .int) (C := RX2) (T := TX2) (N := 12) hx hb hts hinX2 tyX2 tyX2_ok nmX2 hown hK hP hD hS 0 rfl rfl 5 (by decide) (hts (.fieldLink RX2 46 "PuzzleBookModel" "thrown" "I") (by decide +kernel)) (fun _ h9 => h9) rfl (by decide +kernel) rfl rfl (Nat.le_of_ble_eq_true rfl) dX2_crash_2 (fun H locs hP hD hS => ?_)
  have hP : va_P D vwCl (mW m0 m1 m2 m3 m4 m5 cB cI n L fd fc op tn eb ec 0) H := hP
  have hD : va_D A (mW m0 m1 m2 m3 m4 m5 cB cI n L fd fc op tn eb ec 0) := hD
  refine lv_aload_n hx hb dX2_crash_5 rfl (lv_at hl 0 rfl) ?_
  refine va_get (D := D) (ci := 3) (v := .int (nI op)) (C := RX2) (T := TX2) (N := 12) hx hb hts hinX2 hown hK hP 0 rfl rfl 2 (by decide) (hts (.fieldLink RX2 32 "PuzzleBookModel" "open" "Z") (by decide +kernel)) (fun _ h9 => h9) rfl dX2_crash_6 ?_
  refine j0_eq (tgt := 31) hx hb (nI_toInt (n := op) (by omega)) dX2_crash_9 (by decide) (fun c1 => ?_) (fun c1 => ?_)
  · skip
    have e9 : mcF L op kz = (L, op, nI 0) := if_neg (by omega)
    rw [e9]
    refine lv_iconst (v := nI 0) hx hb dX2_crash_31 (by decide +kernel) ?_
    exact rt_wz hx hb hr hlocks hP hD hS dX2_crash_32 (by decide +kernel) rfl
  · skip
    refine lv_aload_n hx hb dX2_crash_12 rfl (lv_at hl 0 rfl) ?_
    refine va_get (D := D) (ci := 3) (v := .int (nI L.2.2.2)) (C := RX2) (T := TX2) (N := 12) hx hb hts hinX2 hown hK hP 0 rfl rfl 11 (by decide) (hts (.fieldLink RX2 43 "PuzzleBookModel" "written" "I") (by decide +kernel)) (fun _ h9 => h9) rfl dX2_crash_13 ?_
    refine j0_eq (tgt := 31) hx hb (nI_toInt (n := L.2.2.2) (by omega)) dX2_crash_16 (by decide) (fun c2 => ?_) (fun c2 => ?_)
    · skip
      have e9 : mcF L op kz = (L, op, nI 0) := if_neg (by omega)
      rw [e9]
      refine lv_iconst (v := nI 0) hx hb dX2_crash_31 (by decide +kernel) ?_
      exact rt_wz hx hb hr hlocks hP hD hS dX2_crash_32 (by decide +kernel) rfl
    · skip
      refine lv_iload_n hx hb dX2_crash_19 rfl (lv_at hl 1 rfl) ?_
      refine j0_lt (tgt := 31) hx hb h1 dX2_crash_20 (by decide) (fun c3 => ?_) (fun c3 => ?_)
      · skip
        have e9 : mcF L op kz = (L, op, nI 0) := if_neg (by omega)
        rw [e9]
        refine lv_iconst (v := nI 0) hx hb dX2_crash_31 (by decide +kernel) ?_
        exact rt_wz hx hb hr hlocks hP hD hS dX2_crash_32 (by decide +kernel) rfl
      · skip
        refine lv_iload_n hx hb dX2_crash_23 rfl (lv_at hl 1 rfl) ?_
        refine lv_aload_n hx hb dX2_crash_24 rfl (lv_at hl 0 rfl) ?_
        refine va_get (D := D) (ci := 3) (v := .int (nI L.2.2.2)) (C := RX2) (T := TX2) (N := 12) hx hb hts hinX2 hown hK hP 0 rfl rfl 11 (by decide) (hts (.fieldLink RX2 43 "PuzzleBookModel" "written" "I") (by decide +kernel)) (fun _ h9 => h9) rfl dX2_crash_25 ?_
        refine jb_le (tgt := 33) hx hb h1 (nI_toInt (n := L.2.2.2) (by omega)) dX2_crash_28 (by decide) (fun c4 => ?_) (fun c4 => ?_)
        · skip
          obtain ⟨i, hi⟩ : ∃ j : Nat, kz = (j : Int) := ⟨kz.toNat, by omega⟩
          have ei : kv = nI i := Int32.toInt_inj.mp (by rw [h1, hi, nI_toInt (by omega)])
          have zi : kz.toNat = i := by omega
          have e9 : mcF L op kz = ((unD L (L.2.2.2 - i), L.2.1, L.2.2.1, L.2.2.2), 0, nI 1) := by rw [← zi]; exact if_pos (by omega)
          have loop : ∀ (fu t : Nat), i ≤ t → t ≤ L.2.2.2 → t - i < fu → ∀ (H : Heap) (locs : List Loc), va_P D vwCl (mW m0 m1 m2 m3 m4 m5 cB cI n (unD L (L.2.2.2 - t), L.2.1, L.2.2.1, L.2.2.2) fd fc op tn eb ec 0) H → va_D A (mW m0 m1 m2 m3 m4 m5 cB cI n (unD L (L.2.2.2 - t), L.2.1, L.2.2.1, L.2.2.2) fd fc op tn eb ec 0) → va_S A s.heap H locs → ∀ ls : Array Slot, lv_has ls 3 [(2, .int (nI t - nI 1)), (0, .ref m0), (1, .int kv)] → W p l e ({ frames := 0, cells := 0, slots := 0, locals := 0 }) s m [.ref m0, .int kv].toArray below meth c H locs 0 0 (MQ below (wQi ((mcF L op kz).2.2) D (mW m0 m1 m2 m3 m4 m5 cB cI n ((mcF L op kz).1) fd fc ((mcF L op kz).2.1) tn eb ec 0) A) [.ref m0, .int kv].toArray s 0 0 A) (F0 m 40 ls []) := by
            intro fu
            induction fu with
            | zero => intro t ha hb9 hf; omega
            | succ fu ih =>
              intro t ha hb9 hfu H locs hP hD hS ls hl
              refine lv_iload_n hx hb dX2_crash_40 rfl (lv_at hl 0 rfl) ?_
              refine lv_iload_n hx hb dX2_crash_41 rfl (lv_at hl 2 rfl) ?_
              refine jb_lt (tgt := 68) hx hb (m1_toInt (by omega)) h1 dX2_crash_42 (by decide) (fun c5 => ?_) (fun c5 => ?_)
              · skip
                refine lv_aload_n hx hb dX2_crash_68 rfl (lv_at hl 1 rfl) ?_
                refine lv_iconst (v := nI 0) hx hb dX2_crash_69 (by decide +kernel) ?_
                refine va_put (D := D) (ci := 3) (v := .int (nI 0)) (ty := .boolean) (C := RX2) (T := TX2) (N := 12) hx hb hts hinX2 tyX2 tyX2_ok nmX2 hown hK hP hD hS 0 rfl rfl 2 (by decide) (hts (.fieldLink RX2 32 "PuzzleBookModel" "open" "Z") (by decide +kernel)) (fun _ h9 => h9) rfl (by decide +kernel) rfl rfl (Nat.le_of_ble_eq_true rfl) dX2_crash_70 (fun H locs hP hD hS => ?_)
                have hP : va_P D vwCl (mW m0 m1 m2 m3 m4 m5 cB cI n (unD L (L.2.2.2 - t), L.2.1, L.2.2.1, L.2.2.2) fd fc 0 tn eb ec 0) H := hP
                have hD : va_D A (mW m0 m1 m2 m3 m4 m5 cB cI n (unD L (L.2.2.2 - t), L.2.1, L.2.2.1, L.2.2.2) fd fc 0 tn eb ec 0) := hD
                refine lv_iconst (v := nI 1) hx hb dX2_crash_73 (by decide +kernel) ?_
                rw [e9]
                have hk9 : i = t := by omega
                subst hk9
                exact rt_wz hx hb hr hlocks hP hD hS dX2_crash_74 (by decide +kernel) rfl
              · skip
                have p9 := hp (by omega) (t - 1) (by omega)
                refine lv_aload_n hx hb dX2_crash_45 rfl (lv_at hl 1 rfl) ?_
                refine va_get (D := D) (ci := 3) (v := .ref m1) (C := RX2) (T := TX2) (N := 12) hx hb hts hinX2 hown hK hP 0 rfl rfl 1 (by decide) (hts (.fieldLink RX2 7 "PuzzleBookModel" "store" "[I") (by decide +kernel)) (fun _ h9 => h9) rfl dX2_crash_46 ?_
                refine lv_aload_n hx hb dX2_crash_49 rfl (lv_at hl 1 rfl) ?_
                refine va_get (D := D) (ci := 3) (v := .ref m4) (C := RX2) (T := TX2) (N := 12) hx hb hts hinX2 hown hK hP 0 rfl rfl 9 (by decide) (hts (.fieldLink RX2 19 "PuzzleBookModel" "where" "[I") (by decide +kernel)) (fun _ h9 => h9) rfl dX2_crash_50 ?_
                refine lv_iload_n hx hb dX2_crash_53 rfl (lv_at hl 0 rfl) ?_
                refine lv_as (y := nI (t - 1)) (pk_sub (by omega)) ?_
                refine ld_i (f := L.2.1) (k := t - 1) hx hb hK hP 4 1 rfl rfl (by omega) (by decide) dX2_crash_54 ?_
                refine lv_aload_n hx hb dX2_crash_55 rfl (lv_at hl 1 rfl) ?_
                refine va_get (D := D) (ci := 3) (v := .ref m5) (C := RX2) (T := TX2) (N := 12) hx hb hts hinX2 hown hK hP 0 rfl rfl 10 (by decide) (hts (.fieldLink RX2 22 "PuzzleBookModel" "before" "[I") (by decide +kernel)) (fun _ h9 => h9) rfl dX2_crash_56 ?_
                refine lv_iload_n hx hb dX2_crash_59 rfl (lv_at hl 0 rfl) ?_
                refine lv_as (y := nI (t - 1)) (pk_sub (by omega)) ?_
                refine ld_i (f := L.2.2.1) (k := t - 1) hx hb hK hP 5 1 rfl rfl (by omega) (by decide) dX2_crash_60 ?_
                refine st_i (f := unD L (L.2.2.2 - t)) (k := L.2.1 (t - 1)) (x := L.2.2.1 (t - 1)) hx hb hK hP hD hS 1 1 rfl rfl (by omega) (by decide) dX2_crash_61 (fun H locs hP hD hS => ?_)
                have hP : va_P D vwCl (mW m0 m1 m2 m3 m4 m5 cB cI n (va_up (unD L (L.2.2.2 - t)) (L.2.1 (t - 1)) (L.2.2.1 (t - 1)), L.2.1, L.2.2.1, L.2.2.2) fd fc op tn eb ec 0) H := hP
                have hD : va_D A (mW m0 m1 m2 m3 m4 m5 cB cI n (va_up (unD L (L.2.2.2 - t)) (L.2.1 (t - 1)) (L.2.2.1 (t - 1)), L.2.1, L.2.2.1, L.2.2.2) fd fc op tn eb ec 0) := hD
                refine lv_iinc (v := (nI (t - 1) - nI 1)) (lv' := [(2, .int (nI (t - 1) - nI 1)), (0, .ref m0), (1, .int kv)]) hx hb dX2_crash_62 hl (k := 0) rfl (m1_dec (by omega)) (by decide) rfl (fun ls hl => ?_)
                refine lv_goto (tgt := 40) hx hb dX2_crash_65 (by decide) ?_
                have u9 : va_up (unD L (L.2.2.2 - t)) (L.2.1 (t - 1)) (L.2.2.1 (t - 1)) = unD L (L.2.2.2 - (t - 1)) := (unD_s (by omega) hb9).symm
                rw [u9] at hP hD
                exact ih (t - 1) (by omega) (by omega) (by omega) H locs hP hD hS ls (lv_sub hl [0, 1, 2] rfl)
          refine lv_aload_n hx hb dX2_crash_33 rfl (lv_at hl 0 rfl) ?_
          refine va_get (D := D) (ci := 3) (v := .int (nI L.2.2.2)) (C := RX2) (T := TX2) (N := 12) hx hb hts hinX2 hown hK hP 0 rfl rfl 11 (by decide) (hts (.fieldLink RX2 43 "PuzzleBookModel" "written" "I") (by decide +kernel)) (fun _ h9 => h9) rfl dX2_crash_34 ?_
          refine lv_iconst (v := nI 1) hx hb dX2_crash_37 (by decide +kernel) ?_
          refine lv_isub hx hb dX2_crash_38 ?_
          refine lv_istore_n (lv' := [(2, .int (nI L.2.2.2 - nI 1)), (0, .ref m0), (1, .int kv)]) hx hb dX2_crash_39 rfl hl (by decide) rfl (fun ls hl => ?_)
          exact loop (L.2.2.2 + 1) L.2.2.2 (by omega) (by omega) (by omega) H locs (by rw [Nat.sub_self]; exact hP) (by rw [Nat.sub_self]; exact hD) hS ls (lv_sub hl [0, 1, 2] rfl)
        · skip
          have e9 : mcF L op kz = (L, op, nI 0) := if_neg (by omega)
          rw [e9]
          refine lv_iconst (v := nI 0) hx hb dX2_crash_31 (by decide +kernel) ?_
          exact rt_wz hx hb hr hlocks hP hD hS dX2_crash_32 (by decide +kernel) rfl
set_option maxRecDepth 100000 in
set_option maxHeartbeats 4000000 in
/-- poke(b, i, mask) -/
theorem c_X2_poke (l : Launch) (D : va_G) (m0 m1 m2 m3 m4 m5 : Nat) (cB cI : ClassId) (n : Nat) (L : Lg) (fd : Nat → Nat) (fc : Nat) (op : Nat) (tn : Nat) (eb : Nat → Nat) (ec : Nat) (th : Nat) (bv iv mv : Int32) (bz iz mz : Int) (sz : Nat) (hn : n ≤ 64) (h1 : bv.toInt = bz) (h2 : iv.toInt = iz) (h3 : mv.toInt = mz) : Met l yX2_poke wsX2_poke ({ frames := 1, cells := 0, slots := 0, locals := 22 }) (wP [.ref m0, .int bv, .int iv, .int mv] D (mW m0 m1 m2 m3 m4 m5 cB cI n L fd fc op tn eb ec th) (ty2 cB cI) sz) (wQi ((pkF n L bz iz mz).2) D (mW m0 m1 m2 m3 m4 m5 cB cI n ((pkF n L bz iz mz).1) fd fc op tn eb ec 0) (va_A (mW m0 m1 m2 m3 m4 m5 cB cI n L fd fc op tn eb ec th) sz)) 0 0 (va_A (mW m0 m1 m2 m3 m4 m5 cB cI n L fd fc op tn eb ec th) sz) := by
  refine met_wi (by decide) rfl (Nat.le_of_ble_eq_true rfl) ?_
  intro p e s m below meth c hx hb hml hr hlocks hown hts hP hK A hD hA hS ls hl
  have hown : s.vm.findClass RX2 = some m.cls := hown
  have hinX2 : ∀ w ∈ u_ws RX2 TX2 12, w ∈ wsX2_poke := by decide +kernel
  have hl : lv_has ls 4 [(0, .ref m0), (1, .int bv), (2, .int iv), (3, .int mv)] := hl
  refine lv_aload_n hx hb dX2_poke_0 rfl (lv_at hl 0 rfl) ?_
  refine lv_iconst (v := nI 0) hx hb dX2_poke_1 (by decide +kernel) ?_
  refine va_put (D := D) (ci := 3) (v := .int (nI 0)) (ty := .int) (C := RX2) (T := TX2) (N := 12) hx hb hts hinX2 tyX2 tyX2_ok nmX2 hown hK hP hD hS 0 rfl rfl 5 (by decide) (hts (.fieldLink RX2 46 "PuzzleBookModel" "thrown" "I") (by decide +kernel)) (fun _ h9 => h9) rfl (by decide +kernel) rfl rfl (Nat.le_of_ble_eq_true rfl) dX2_poke_2 (fun H locs hP hD hS => ?_)
  have hP : va_P D vwCl (mW m0 m1 m2 m3 m4 m5 cB cI n L fd fc op tn eb ec 0) H := hP
  have hD : va_D A (mW m0 m1 m2 m3 m4 m5 cB cI n L fd fc op tn eb ec 0) := hD
  refine lv_aload_n hx hb dX2_poke_5 rfl (lv_at hl 0 rfl) ?_
  refine lv_iload_n hx hb dX2_poke_6 rfl (lv_at hl 1 rfl) ?_
  refine lv_iload_n hx hb dX2_poke_7 rfl (lv_at hl 2 rfl) ?_
  refine rd_V (As := [.int bv, .int iv]) (rest := []) ⟨hx, hb, hml, hown, hts⟩ (c_X2_isByte l D m0 m1 m2 m3 m4 m5 cB cI n L fd fc op tn eb ec 0 bv iv bz iz hn h1 h2) (cwV 2 hts gX2_poke_X2_isByte rfl rfl rfl (by decide +kernel) ⟨Nat.le_of_ble_eq_true rfl, Nat.le_of_ble_eq_true rfl⟩) hK hP [0, 1, 2, 3, 4, 5] rfl (ci := 3) rfl rfl (q0 := 0) rfl rfl hl.1 rfl (Nat.le_of_ble_eq_true rfl) dX2_poke_8 ⟨Nat.zero_le _, Nat.zero_le _⟩ (fun r1 hr1 => ?_)
  subst hr1
  by_cases q2 : (0 ≤ bz ∧ bz < (n : Int) ∧ 0 ≤ iz ∧ iz < 64)
  · skip
    refine lv_as (y := nI 1) (congrArg nI (b01_t q2)) ?_
    refine j0_eq (tgt := 26) hx hb (nI_toInt (n := 1) (by decide)) dX2_poke_11 (by decide) (fun c3 => absurd c3 (by omega)) (fun c3 => ?_)
    refine lv_iload_n hx hb dX2_poke_14 rfl (lv_at hl 3 rfl) ?_
    refine lv_iconst (v := nI 1) hx hb dX2_poke_15 (by decide +kernel) ?_
    refine jb_lt (tgt := 26) hx hb h3 (nI_toInt (n := 1) (by decide)) dX2_poke_16 (by decide) (fun c4 => ?_) (fun c4 => ?_)
    · skip
      have e9 : pkF n L bz iz mz = (L, nI 0) := if_neg (by omega)
      rw [e9]
      refine lv_iconst (v := nI 0) hx hb dX2_poke_26 (by decide +kernel) ?_
      exact rt_wz hx hb hr hlocks hP hD hS dX2_poke_27 (by decide +kernel) rfl
    · skip
      refine lv_iload_n hx hb dX2_poke_19 rfl (lv_at hl 3 rfl) ?_
      refine lv_sipush (v := nI 255) hx hb dX2_poke_20 (by decide +kernel) ?_
      refine jb_le (tgt := 28) hx hb h3 (nI_toInt (n := 255) (by decide)) dX2_poke_23 (by decide) (fun c5 => ?_) (fun c5 => ?_)
      · skip
        obtain ⟨jb, hjb⟩ : ∃ j : Nat, bz = (j : Int) := ⟨bz.toNat, by omega⟩
        have ejb : bv = nI jb := Int32.toInt_inj.mp (by rw [h1, hjb, nI_toInt (by omega)])
        have zjb : bz.toNat = jb := by omega
        obtain ⟨ji, hji⟩ : ∃ j : Nat, iz = (j : Int) := ⟨iz.toNat, by omega⟩
        have eji : iv = nI ji := Int32.toInt_inj.mp (by rw [h2, hji, nI_toInt (by omega)])
        have zji : iz.toNat = ji := by omega
        obtain ⟨jm, hjm⟩ : ∃ j : Nat, mz = (j : Int) := ⟨mz.toNat, by omega⟩
        have ejm : mv = nI jm := Int32.toInt_inj.mp (by rw [h3, hjm, nI_toInt (by omega)])
        have zjm : mz.toNat = jm := by omega
        have e9 : pkF n L bz iz mz = (wX L (64 * jb + ji) jm, nI 1) := by rw [← zjb, ← zji, ← zjm]; exact if_pos (by omega)
        rw [e9]
        refine lv_aload_n hx hb dX2_poke_28 rfl (lv_at hl 0 rfl) ?_
        refine va_get (D := D) (ci := 3) (v := .ref m1) (C := RX2) (T := TX2) (N := 12) hx hb hts hinX2 hown hK hP 0 rfl rfl 1 (by decide) (hts (.fieldLink RX2 7 "PuzzleBookModel" "store" "[I") (by decide +kernel)) (fun _ h9 => h9) rfl dX2_poke_29 ?_
        refine lv_bipush (v := nI 64) hx hb dX2_poke_32 (by decide +kernel) ?_
        refine lv_iload_n hx hb dX2_poke_34 rfl (lv_at hl 1 rfl) ?_
        refine lv_as (y := nI jb) ejb ?_
        refine lv_imul hx hb dX2_poke_35 ?_
        refine lv_as (y := nI (64 * jb)) (pk_mul _ _) ?_
        refine lv_iload_n hx hb dX2_poke_36 rfl (lv_at hl 2 rfl) ?_
        refine lv_as (y := nI ji) eji ?_
        refine lv_iadd hx hb dX2_poke_37 ?_
        refine lv_as (y := nI ((64 * jb) + ji)) (nI_add _ _) ?_
        refine lv_dup2_11 hx hb dX2_poke_38 rfl rfl ?_
        refine ld_i (f := L.1) (k := (64 * jb) + ji) hx hb hK hP 1 1 rfl rfl (by omega) (by decide) dX2_poke_39 ?_
        refine lv_iload_n hx hb dX2_poke_40 rfl (lv_at hl 3 rfl) ?_
        refine lv_as (y := nI jm) ejm ?_
        refine lv_ixor hx hb dX2_poke_41 ?_
        refine lv_as (y := nI (L.1 (64 * jb + ji) ^^^ jm)) (nI_xor _ _) ?_
        refine st_i (f := L.1) (k := (64 * jb) + ji) (x := L.1 (64 * jb + ji) ^^^ jm) hx hb hK hP hD hS 1 1 rfl rfl (by omega) (by decide) dX2_poke_42 (fun H locs hP hD hS => ?_)
        have hP : va_P D vwCl (mW m0 m1 m2 m3 m4 m5 cB cI n (va_up L.1 ((64 * jb) + ji) (L.1 (64 * jb + ji) ^^^ jm), L.2.1, L.2.2.1, L.2.2.2) fd fc op tn eb ec 0) H := hP
        have hD : va_D A (mW m0 m1 m2 m3 m4 m5 cB cI n (va_up L.1 ((64 * jb) + ji) (L.1 (64 * jb + ji) ^^^ jm), L.2.1, L.2.2.1, L.2.2.2) fd fc op tn eb ec 0) := hD
        refine lv_iconst (v := nI 1) hx hb dX2_poke_43 (by decide +kernel) ?_
        exact rt_wz hx hb hr hlocks hP hD hS dX2_poke_44 (by decide +kernel) rfl
      · skip
        have e9 : pkF n L bz iz mz = (L, nI 0) := if_neg (by omega)
        rw [e9]
        refine lv_iconst (v := nI 0) hx hb dX2_poke_26 (by decide +kernel) ?_
        exact rt_wz hx hb hr hlocks hP hD hS dX2_poke_27 (by decide +kernel) rfl
  · skip
    refine lv_as (y := nI 0) (congrArg nI (b01_f q2)) ?_
    refine j0_eq (tgt := 26) hx hb (nI_toInt (n := 0) (by decide)) dX2_poke_11 (by decide) (fun c6 => ?_) (fun c6 => absurd c6 (by omega))
    have e9 : pkF n L bz iz mz = (L, nI 0) := if_neg (by omega)
    rw [e9]
    refine lv_iconst (v := nI 0) hx hb dX2_poke_26 (by decide +kernel) ?_
    exact rt_wz hx hb hr hlocks hP hD hS dX2_poke_27 (by decide +kernel) rfl
set_option maxRecDepth 100000 in
set_option maxHeartbeats 4000000 in
/-- badAt() -/
theorem c_X2_badAt (l : Launch) (D : va_G) (m0 m1 m2 m3 m4 m5 : Nat) (cB cI : ClassId) (n : Nat) (L : Lg) (fd : Nat → Nat) (fc : Nat) (op : Nat) (tn : Nat) (eb : Nat → Nat) (ec : Nat) (th : Nat)  (sz : Nat) (hn0 : 4 ≤ n) (hn : n ≤ 64) (hg : ∀ j, L.1 j < 256) (he : ec ≤ 40) (hE : ∀ k, bO eb ec k < n) (ho : op ≤ 1) (ht : op ≠ 0 → tn < n) : Met l yX2_badAt wsX2_badAt ({ frames := 2, cells := 0, slots := 0, locals := 46 }) (wP [.ref m0] D (mW m0 m1 m2 m3 m4 m5 cB cI n L fd fc op tn eb ec th) (ty2 cB cI) sz) (wQi ((qm_bad L.1 (bO eb ec) op tn ec n)) D (mW m0 m1 m2 m3 m4 m5 cB cI n L fd fc op tn eb ec 0) (va_A (mW m0 m1 m2 m3 m4 m5 cB cI n L fd fc op tn eb ec th) sz)) 0 0 (va_A (mW m0 m1 m2 m3 m4 m5 cB cI n L fd fc op tn eb ec th) sz) := by
  refine met_wi (by decide) rfl (Nat.le_of_ble_eq_true rfl) ?_
  intro p e s m below meth c hx hb hml hr hlocks hown hts hP hK A hD hA hS ls hl
  have hown : s.vm.findClass RX2 = some m.cls := hown
  have hinX2 : ∀ w ∈ u_ws RX2 TX2 12, w ∈ wsX2_badAt := by decide +kernel
  have hl : lv_has ls 2 [(0, .ref m0)] := hl
  refine lv_aload_n hx hb dX2_badAt_0 rfl (lv_at hl 0 rfl) ?_
  refine lv_iconst (v := nI 0) hx hb dX2_badAt_1 (by decide +kernel) ?_
  refine va_put (D := D) (ci := 3) (v := .int (nI 0)) (ty := .int) (C := RX2) (T := TX2) (N := 12) hx hb hts hinX2 tyX2 tyX2_ok nmX2 hown hK hP hD hS 0 rfl rfl 5 (by decide) (hts (.fieldLink RX2 46 "PuzzleBookModel" "thrown" "I") (by decide +kernel)) (fun _ h9 => h9) rfl (by decide +kernel) rfl rfl (Nat.le_of_ble_eq_true rfl) dX2_badAt_2 (fun H locs hP hD hS => ?_)
  have hP : va_P D vwCl (mW m0 m1 m2 m3 m4 m5 cB cI n L fd fc op tn eb ec 0) H := hP
  have hD : va_D A (mW m0 m1 m2 m3 m4 m5 cB cI n L fd fc op tn eb ec 0) := hD
  refine lv_aload_n hx hb dX2_badAt_5 rfl (lv_at hl 0 rfl) ?_
  refine va_get (D := D) (ci := 3) (v := .int (nI op)) (C := RX2) (T := TX2) (N := 12) hx hb hts hinX2 hown hK hP 0 rfl rfl 2 (by decide) (hts (.fieldLink RX2 32 "PuzzleBookModel" "open" "Z") (by decide +kernel)) (fun _ h9 => h9) rfl dX2_badAt_6 ?_
  refine j0_ne (tgt := 14) hx hb (nI_toInt (n := op) (by omega)) dX2_badAt_9 (by decide) (fun c1 => ?_) (fun c1 => ?_)
  · skip
    have t9 := ht (by omega)
    refine lv_aload_n hx hb dX2_badAt_14 rfl (lv_at hl 0 rfl) ?_
    refine lv_aload_n hx hb dX2_badAt_15 rfl (lv_at hl 0 rfl) ?_
    refine va_get (D := D) (ci := 3) (v := .int (nI tn)) (C := RX2) (T := TX2) (N := 12) hx hb hts hinX2 hown hK hP 0 rfl rfl 3 (by decide) (hts (.fieldLink RX2 29 "PuzzleBookModel" "turn" "I") (by decide +kernel)) (fun _ h9 => h9) rfl dX2_badAt_16 ?_
    refine rd_V (As := [.int (nI tn)]) (rest := []) ⟨hx, hb, hml, hown, hts⟩ (c_X2_isRight l D m0 m1 m2 m3 m4 m5 cB cI n L fd fc op tn eb ec 0 tn hg (by omega)) (cwV 1 hts gX2_badAt_X2_isRight rfl rfl rfl (by decide +kernel) ⟨Nat.le_of_ble_eq_true rfl, Nat.le_of_ble_eq_true rfl⟩) hK hP [0, 1, 2, 3, 4, 5] rfl (ci := 3) rfl rfl (q0 := 0) rfl rfl hl.1 rfl (Nat.le_of_ble_eq_true rfl) dX2_badAt_19 ⟨Nat.zero_le _, Nat.zero_le _⟩ (fun r2 hr2 => ?_)
    subst hr2
    by_cases q3 : (okS L.1 (64 * tn))
    · skip
      refine lv_as (y := nI 1) (congrArg nI (b01_t q3)) ?_
      refine j0_ne (tgt := 30) hx hb (nI_toInt (n := 1) (by decide)) dX2_badAt_22 (by decide) (fun c4 => ?_) (fun c4 => absurd c4 (by omega))
      have loop : ∀ (fu j : Nat), 3 + j ≤ n → n - (3 + j) < fu → (∀ i, i < j → ¬ (fun j => tk (bO eb ec) ec (3 + j) ∧ ¬ okS L.1 (64 * (3 + j))) i) → ∀ (H : Heap) (locs : List Loc), va_P D vwCl (mW m0 m1 m2 m3 m4 m5 cB cI n L fd fc op tn eb ec 0) H → va_D A (mW m0 m1 m2 m3 m4 m5 cB cI n L fd fc op tn eb ec 0) → va_S A s.heap H locs → ∀ ls : Array Slot, lv_has ls 2 [(1, .int (nI (3 + j))), (0, .ref m0)] → W p l e ({ frames := 2, cells := 0, slots := 0, locals := 46 }) s m [.ref m0].toArray below meth c H locs 0 0 (MQ below (wQi ((qm_bad L.1 (bO eb ec) op tn ec n)) D (mW m0 m1 m2 m3 m4 m5 cB cI n L fd fc op tn eb ec 0) A) [.ref m0].toArray s 0 0 A) (F0 m 32 ls []) := by
        intro fu
        induction fu with
        | zero => intro j hj hf; omega
        | succ fu ih =>
          intro j hj hfu hi H locs hP hD hS ls hl
          refine lv_iload_n hx hb dX2_badAt_32 rfl (lv_at hl 0 rfl) ?_
          refine lv_aload_n hx hb dX2_badAt_33 rfl (lv_at hl 1 rfl) ?_
          refine va_get (D := D) (ci := 3) (v := .int (nI n)) (C := RX2) (T := TX2) (N := 12) hx hb hts hinX2 hown hK hP 0 rfl rfl 0 (by decide) (hts (.fieldLink RX2 25 "PuzzleBookModel" "blocks" "I") (by decide +kernel)) (fun _ h9 => h9) rfl dX2_badAt_34 ?_
          refine jb_ge (tgt := 64) hx hb (nI_toInt (n := 3 + j) (by omega)) (nI_toInt (n := n) (by omega)) dX2_badAt_37 (by decide) (fun c5 => ?_) (fun c5 => ?_)
          · skip
            refine lv_iconst (v := -1) hx hb dX2_badAt_64 (by decide +kernel) ?_
            have e9 : fN (fun j => tk (bO eb ec) ec (3 + j) ∧ ¬ okS L.1 (64 * (3 + j))) (n - 3) = n - 3 := fN_no (fun k hk => hi k (by omega))
            exact rt_wi hx hb hr hlocks hP hD hS dX2_badAt_65 (by unfold qm_bad; rw [if_neg (by omega), if_pos q3, if_neg (by rw [e9]; omega)])
          · skip
            refine lv_aload_n hx hb dX2_badAt_40 rfl (lv_at hl 1 rfl) ?_
            refine lv_iload_n hx hb dX2_badAt_41 rfl (lv_at hl 0 rfl) ?_
            refine rd_V (As := [.int (nI (3 + j))]) (rest := []) ⟨hx, hb, hml, hown, hts⟩ (c_X2_isUsed l D m0 m1 m2 m3 m4 m5 cB cI n L fd fc op tn eb ec 0 (3 + j) hn he hE (by omega)) (cwV 1 hts gX2_badAt_X2_isUsed rfl rfl rfl (by decide +kernel) ⟨Nat.le_of_ble_eq_true rfl, Nat.le_of_ble_eq_true rfl⟩) hK hP [0, 1, 2, 3, 4, 5] rfl (ci := 3) rfl rfl (q0 := 0) rfl rfl hl.1 rfl (Nat.le_of_ble_eq_true rfl) dX2_badAt_42 ⟨Nat.zero_le _, Nat.zero_le _⟩ (fun r6 hr6 => ?_)
            subst hr6
            by_cases q7 : (tk (bO eb ec) ec (3 + j))
            · skip
              refine lv_as (y := nI 1) (congrArg nI (b01_t q7)) ?_
              refine j0_eq (tgt := 58) hx hb (nI_toInt (n := 1) (by decide)) dX2_badAt_45 (by decide) (fun c8 => absurd c8 (by omega)) (fun c8 => ?_)
              refine lv_aload_n hx hb dX2_badAt_48 rfl (lv_at hl 1 rfl) ?_
              refine lv_iload_n hx hb dX2_badAt_49 rfl (lv_at hl 0 rfl) ?_
              refine rd_V (As := [.int (nI (3 + j))]) (rest := []) ⟨hx, hb, hml, hown, hts⟩ (c_X2_isRight l D m0 m1 m2 m3 m4 m5 cB cI n L fd fc op tn eb ec 0 (3 + j) hg (by omega)) (cwV 1 hts gX2_badAt_X2_isRight rfl rfl rfl (by decide +kernel) ⟨Nat.le_of_ble_eq_true rfl, Nat.le_of_ble_eq_true rfl⟩) hK hP [0, 1, 2, 3, 4, 5] rfl (ci := 3) rfl rfl (q0 := 0) rfl rfl hl.1 rfl (Nat.le_of_ble_eq_true rfl) dX2_badAt_50 ⟨Nat.zero_le _, Nat.zero_le _⟩ (fun r9 hr9 => ?_)
              subst hr9
              by_cases q10 : (okS L.1 (64 * (3 + j)))
              · skip
                refine lv_as (y := nI 1) (congrArg nI (b01_t q10)) ?_
                refine j0_ne (tgt := 58) hx hb (nI_toInt (n := 1) (by decide)) dX2_badAt_53 (by decide) (fun c11 => ?_) (fun c11 => absurd c11 (by omega))
                refine lv_iinc (v := nI (3 + j + 1)) (lv' := [(1, .int (nI (3 + j + 1))), (0, .ref m0)]) hx hb dX2_badAt_58 hl (k := 0) rfl (nI_add _ 1) (by decide) rfl (fun ls hl => ?_)
                refine lv_goto (tgt := 32) hx hb dX2_badAt_61 (by decide) ?_
                exact ih (j + 1) (by omega) (by omega) (fun i q => (Nat.lt_or_eq_of_le (Nat.le_of_lt_succ q)).elim (hi i) (fun q => by rw [q]; exact fun z => z.2 q10)) H locs hP hD hS ls (lv_sub hl [0, 1] rfl)
              · skip
                refine lv_as (y := nI 0) (congrArg nI (b01_f q10)) ?_
                refine j0_ne (tgt := 58) hx hb (nI_toInt (n := 0) (by decide)) dX2_badAt_53 (by decide) (fun c12 => absurd c12 (by omega)) (fun c12 => ?_)
                refine lv_iload_n hx hb dX2_badAt_56 rfl (lv_at hl 0 rfl) ?_
                have e9 : fN (fun j => tk (bO eb ec) ec (3 + j) ∧ ¬ okS L.1 (64 * (3 + j))) (n - 3) = j := fN_eq (by omega) ⟨q7, q10⟩ hi
                exact rt_wi hx hb hr hlocks hP hD hS dX2_badAt_57 (by unfold qm_bad; rw [if_neg (by omega), if_pos q3, if_pos (by rw [e9]; omega), e9])
            · skip
              refine lv_as (y := nI 0) (congrArg nI (b01_f q7)) ?_
              refine j0_eq (tgt := 58) hx hb (nI_toInt (n := 0) (by decide)) dX2_badAt_45 (by decide) (fun c13 => ?_) (fun c13 => absurd c13 (by omega))
              refine lv_iinc (v := nI (3 + j + 1)) (lv' := [(1, .int (nI (3 + j + 1))), (0, .ref m0)]) hx hb dX2_badAt_58 hl (k := 0) rfl (nI_add _ 1) (by decide) rfl (fun ls hl => ?_)
              refine lv_goto (tgt := 32) hx hb dX2_badAt_61 (by decide) ?_
              exact ih (j + 1) (by omega) (by omega) (fun i q => (Nat.lt_or_eq_of_le (Nat.le_of_lt_succ q)).elim (hi i) (fun q => by rw [q]; exact fun z => q7 z.1)) H locs hP hD hS ls (lv_sub hl [0, 1] rfl)
      refine lv_iconst (v := nI 3) hx hb dX2_badAt_30 (by decide +kernel) ?_
      refine lv_istore_n (lv' := [(1, .int (nI 3)), (0, .ref m0)]) hx hb dX2_badAt_31 rfl hl (by decide) rfl (fun ls hl => ?_)
      exact loop (n + 1) 0 (by omega) (by omega) (fun j q => absurd q (Nat.not_lt_zero j)) H locs hP hD hS ls (lv_sub hl [0, 1] rfl)
    · skip
      refine lv_as (y := nI 0) (congrArg nI (b01_f q3)) ?_
      refine j0_ne (tgt := 30) hx hb (nI_toInt (n := 0) (by decide)) dX2_badAt_22 (by decide) (fun c14 => absurd c14 (by omega)) (fun c14 => ?_)
      refine lv_aload_n hx hb dX2_badAt_25 rfl (lv_at hl 0 rfl) ?_
      refine va_get (D := D) (ci := 3) (v := .int (nI tn)) (C := RX2) (T := TX2) (N := 12) hx hb hts hinX2 hown hK hP 0 rfl rfl 3 (by decide) (hts (.fieldLink RX2 29 "PuzzleBookModel" "turn" "I") (by decide +kernel)) (fun _ h9 => h9) rfl dX2_badAt_26 ?_
      exact rt_wi hx hb hr hlocks hP hD hS dX2_badAt_29 (by unfold qm_bad; rw [if_neg (by omega), if_neg q3])
  · skip
    refine lv_iconst (v := -1) hx hb dX2_badAt_12 (by decide +kernel) ?_
    exact rt_wi hx hb hr hlocks hP hD hS dX2_badAt_13 (by unfold qm_bad; rw [if_pos (by omega)])
set_option maxRecDepth 100000 in
set_option maxHeartbeats 4000000 in
/-- byteAt(b, i) -/
theorem c_X2_byteAt (l : Launch) (D : va_G) (m0 m1 m2 m3 m4 m5 : Nat) (cB cI : ClassId) (n : Nat) (L : Lg) (fd : Nat → Nat) (fc : Nat) (op : Nat) (tn : Nat) (eb : Nat → Nat) (ec : Nat) (th : Nat) (bv iv : Int32) (bz iz : Int) (sz : Nat) (hn : n ≤ 64) (h1 : bv.toInt = bz) (h2 : iv.toInt = iz) : Met l yX2_byteAt wsX2_byteAt ({ frames := 1, cells := 0, slots := 0, locals := 22 }) (wP [.ref m0, .int bv, .int iv] D (mW m0 m1 m2 m3 m4 m5 cB cI n L fd fc op tn eb ec th) (ty2 cB cI) sz) (wQi ((if (0 ≤ bz ∧ bz < (n : Int) ∧ 0 ≤ iz ∧ iz < 64) then nI (L.1 (64 * bz.toNat + iz.toNat)) else nI 0)) D (mW m0 m1 m2 m3 m4 m5 cB cI n L fd fc op tn eb ec (if (0 ≤ bz ∧ bz < (n : Int) ∧ 0 ≤ iz ∧ iz < 64) then 0 else 1)) (va_A (mW m0 m1 m2 m3 m4 m5 cB cI n L fd fc op tn eb ec th) sz)) 0 0 (va_A (mW m0 m1 m2 m3 m4 m5 cB cI n L fd fc op tn eb ec th) sz) := by
  refine met_wi (by decide) rfl (Nat.le_of_ble_eq_true rfl) ?_
  intro p e s m below meth c hx hb hml hr hlocks hown hts hP hK A hD hA hS ls hl
  have hown : s.vm.findClass RX2 = some m.cls := hown
  have hinX2 : ∀ w ∈ u_ws RX2 TX2 12, w ∈ wsX2_byteAt := by decide +kernel
  have hl : lv_has ls 3 [(0, .ref m0), (1, .int bv), (2, .int iv)] := hl
  refine lv_aload_n hx hb dX2_byteAt_0 rfl (lv_at hl 0 rfl) ?_
  refine lv_aload_n hx hb dX2_byteAt_1 rfl (lv_at hl 0 rfl) ?_
  refine lv_iload_n hx hb dX2_byteAt_2 rfl (lv_at hl 1 rfl) ?_
  refine lv_iload_n hx hb dX2_byteAt_3 rfl (lv_at hl 2 rfl) ?_
  refine rd_V (As := [.int bv, .int iv]) (rest := [.ref m0]) ⟨hx, hb, hml, hown, hts⟩ (c_X2_isByte l D m0 m1 m2 m3 m4 m5 cB cI n L fd fc op tn eb ec th bv iv bz iz hn h1 h2) (cwV 2 hts gX2_byteAt_X2_isByte rfl rfl rfl (by decide +kernel) ⟨Nat.le_of_ble_eq_true rfl, Nat.le_of_ble_eq_true rfl⟩) hK hP [0, 1, 2, 3, 4, 5] rfl (ci := 3) rfl rfl (q0 := 0) rfl rfl hl.1 rfl (Nat.le_of_ble_eq_true rfl) dX2_byteAt_4 ⟨Nat.zero_le _, Nat.zero_le _⟩ (fun r1 hr1 => ?_)
  subst hr1
  by_cases q2 : (0 ≤ bz ∧ bz < (n : Int) ∧ 0 ≤ iz ∧ iz < 64)
  · skip
    refine lv_as (y := nI 1) (congrArg nI (b01_t q2)) ?_
    rw [if_pos q2, if_pos q2]
    refine j0_eq (tgt := 14) hx hb (nI_toInt (n := 1) (by decide)) dX2_byteAt_7 (by decide) (fun c3 => absurd c3 (by omega)) (fun c3 => ?_)
    refine lv_iconst (v := nI 0) hx hb dX2_byteAt_10 (by decide +kernel) ?_
    refine lv_goto (tgt := 15) hx hb dX2_byteAt_11 (by decide) ?_
    refine va_put (D := D) (ci := 3) (v := .int (nI 0)) (ty := .int) (C := RX2) (T := TX2) (N := 12) hx hb hts hinX2 tyX2 tyX2_ok nmX2 hown hK hP hD hS 0 rfl rfl 5 (by decide) (hts (.fieldLink RX2 46 "PuzzleBookModel" "thrown" "I") (by decide +kernel)) (fun _ h9 => h9) rfl (by decide +kernel) rfl rfl (Nat.le_of_ble_eq_true rfl) dX2_byteAt_15 (fun H locs hP hD hS => ?_)
    have hP : va_P D vwCl (mW m0 m1 m2 m3 m4 m5 cB cI n L fd fc op tn eb ec 0) H := hP
    have hD : va_D A (mW m0 m1 m2 m3 m4 m5 cB cI n L fd fc op tn eb ec 0) := hD
    refine lv_aload_n hx hb dX2_byteAt_18 rfl (lv_at hl 0 rfl) ?_
    refine va_get (D := D) (ci := 3) (v := .int (nI 0)) (C := RX2) (T := TX2) (N := 12) hx hb hts hinX2 hown hK hP 0 rfl rfl 5 (by decide) (hts (.fieldLink RX2 46 "PuzzleBookModel" "thrown" "I") (by decide +kernel)) (fun _ h9 => h9) rfl dX2_byteAt_19 ?_
    refine j0_eq (tgt := 29) hx hb (nI_toInt (n := 0) (by decide)) dX2_byteAt_22 (by decide) (fun c4 => ?_) (fun c4 => absurd c4 (by omega))
    obtain ⟨jb, hjb⟩ : ∃ j : Nat, bz = (j : Int) := ⟨bz.toNat, by omega⟩
    have ejb : bv = nI jb := Int32.toInt_inj.mp (by rw [h1, hjb, nI_toInt (by omega)])
    have zjb : bz.toNat = jb := by omega
    obtain ⟨ji, hji⟩ : ∃ j : Nat, iz = (j : Int) := ⟨iz.toNat, by omega⟩
    have eji : iv = nI ji := Int32.toInt_inj.mp (by rw [h2, hji, nI_toInt (by omega)])
    have zji : iz.toNat = ji := by omega
    rw [zjb, zji]
    refine lv_aload_n hx hb dX2_byteAt_29 rfl (lv_at hl 0 rfl) ?_
    refine va_get (D := D) (ci := 3) (v := .ref m1) (C := RX2) (T := TX2) (N := 12) hx hb hts hinX2 hown hK hP 0 rfl rfl 1 (by decide) (hts (.fieldLink RX2 7 "PuzzleBookModel" "store" "[I") (by decide +kernel)) (fun _ h9 => h9) rfl dX2_byteAt_30 ?_
    refine lv_bipush (v := nI 64) hx hb dX2_byteAt_33 (by decide +kernel) ?_
    refine lv_iload_n hx hb dX2_byteAt_35 rfl (lv_at hl 1 rfl) ?_
    refine lv_as (y := nI jb) ejb ?_
    refine lv_imul hx hb dX2_byteAt_36 ?_
    refine lv_as (y := nI (64 * jb)) (pk_mul _ _) ?_
    refine lv_iload_n hx hb dX2_byteAt_37 rfl (lv_at hl 2 rfl) ?_
    refine lv_as (y := nI ji) eji ?_
    refine lv_iadd hx hb dX2_byteAt_38 ?_
    refine lv_as (y := nI ((64 * jb) + ji)) (nI_add _ _) ?_
    refine ld_i (f := L.1) (k := (64 * jb) + ji) hx hb hK hP 1 1 rfl rfl (by omega) (by decide) dX2_byteAt_39 ?_
    exact rt_wi hx hb hr hlocks hP hD hS dX2_byteAt_40 rfl
  · skip
    refine lv_as (y := nI 0) (congrArg nI (b01_f q2)) ?_
    rw [if_neg q2, if_neg q2]
    refine j0_eq (tgt := 14) hx hb (nI_toInt (n := 0) (by decide)) dX2_byteAt_7 (by decide) (fun c5 => ?_) (fun c5 => absurd c5 (by omega))
    refine lv_iconst (v := nI 1) hx hb dX2_byteAt_14 (by decide +kernel) ?_
    refine va_put (D := D) (ci := 3) (v := .int (nI 1)) (ty := .int) (C := RX2) (T := TX2) (N := 12) hx hb hts hinX2 tyX2 tyX2_ok nmX2 hown hK hP hD hS 0 rfl rfl 5 (by decide) (hts (.fieldLink RX2 46 "PuzzleBookModel" "thrown" "I") (by decide +kernel)) (fun _ h9 => h9) rfl (by decide +kernel) rfl rfl (Nat.le_of_ble_eq_true rfl) dX2_byteAt_15 (fun H locs hP hD hS => ?_)
    have hP : va_P D vwCl (mW m0 m1 m2 m3 m4 m5 cB cI n L fd fc op tn eb ec 1) H := hP
    have hD : va_D A (mW m0 m1 m2 m3 m4 m5 cB cI n L fd fc op tn eb ec 1) := hD
    refine lv_aload_n hx hb dX2_byteAt_18 rfl (lv_at hl 0 rfl) ?_
    refine va_get (D := D) (ci := 3) (v := .int (nI 1)) (C := RX2) (T := TX2) (N := 12) hx hb hts hinX2 hown hK hP 0 rfl rfl 5 (by decide) (hts (.fieldLink RX2 46 "PuzzleBookModel" "thrown" "I") (by decide +kernel)) (fun _ h9 => h9) rfl dX2_byteAt_19 ?_
    refine j0_eq (tgt := 29) hx hb (nI_toInt (n := 1) (by decide)) dX2_byteAt_22 (by decide) (fun c6 => absurd c6 (by omega)) (fun c6 => ?_)
    refine lv_iconst (v := nI 0) hx hb dX2_byteAt_25 (by decide +kernel) ?_
    refine lv_goto (tgt := 40) hx hb dX2_byteAt_26 (by decide) ?_
    exact rt_wi hx hb hr hlocks hP hD hS dX2_byteAt_40 rfl
set_option maxRecDepth 100000 in
set_option maxHeartbeats 4000000 in
/-- free() -/
theorem c_X2_free (l : Launch) (D : va_G) (m0 m1 m2 m3 m4 m5 : Nat) (cB cI : ClassId) (n : Nat) (L : Lg) (fd : Nat → Nat) (fc : Nat) (op : Nat) (tn : Nat) (eb : Nat → Nat) (ec : Nat) (th : Nat)  (sz : Nat) (ho : op ≤ 1) : Met l yX2_free wsX2_free ({ frames := 0, cells := 0, slots := 0, locals := 0 }) (wP [.ref m0] D (mW m0 m1 m2 m3 m4 m5 cB cI n L fd fc op tn eb ec th) (ty2 cB cI) sz) (wQi ((q_free op n ec)) D (mW m0 m1 m2 m3 m4 m5 cB cI n L fd fc op tn eb ec 0) (va_A (mW m0 m1 m2 m3 m4 m5 cB cI n L fd fc op tn eb ec th) sz)) 0 0 (va_A (mW m0 m1 m2 m3 m4 m5 cB cI n L fd fc op tn eb ec th) sz) := by
  refine met_wi (by decide) rfl (Nat.le_of_ble_eq_true rfl) ?_
  intro p e s m below meth c hx hb hml hr hlocks hown hts hP hK A hD hA hS ls hl
  have hown : s.vm.findClass RX2 = some m.cls := hown
  have hinX2 : ∀ w ∈ u_ws RX2 TX2 12, w ∈ wsX2_free := by decide +kernel
  have hl : lv_has ls 1 [(0, .ref m0)] := hl
  refine lv_aload_n hx hb dX2_free_0 rfl (lv_at hl 0 rfl) ?_
  refine lv_iconst (v := nI 0) hx hb dX2_free_1 (by decide +kernel) ?_
  refine va_put (D := D) (ci := 3) (v := .int (nI 0)) (ty := .int) (C := RX2) (T := TX2) (N := 12) hx hb hts hinX2 tyX2 tyX2_ok nmX2 hown hK hP hD hS 0 rfl rfl 5 (by decide) (hts (.fieldLink RX2 46 "PuzzleBookModel" "thrown" "I") (by decide +kernel)) (fun _ h9 => h9) rfl (by decide +kernel) rfl rfl (Nat.le_of_ble_eq_true rfl) dX2_free_2 (fun H locs hP hD hS => ?_)
  have hP : va_P D vwCl (mW m0 m1 m2 m3 m4 m5 cB cI n L fd fc op tn eb ec 0) H := hP
  have hD : va_D A (mW m0 m1 m2 m3 m4 m5 cB cI n L fd fc op tn eb ec 0) := hD
  refine lv_aload_n hx hb dX2_free_5 rfl (lv_at hl 0 rfl) ?_
  refine va_get (D := D) (ci := 3) (v := .int (nI op)) (C := RX2) (T := TX2) (N := 12) hx hb hts hinX2 hown hK hP 0 rfl rfl 2 (by decide) (hts (.fieldLink RX2 32 "PuzzleBookModel" "open" "Z") (by decide +kernel)) (fun _ h9 => h9) rfl dX2_free_6 ?_
  refine j0_eq (tgt := 26) hx hb (nI_toInt (n := op) (by omega)) dX2_free_9 (by decide) (fun c1 => ?_) (fun c1 => ?_)
  · skip
    refine lv_iconst (v := -1) hx hb dX2_free_26 (by decide +kernel) ?_
    exact rt_wi hx hb hr hlocks hP hD hS dX2_free_27 (by unfold q_free; rw [if_pos (by omega)])
  · skip
    refine lv_aload_n hx hb dX2_free_12 rfl (lv_at hl 0 rfl) ?_
    refine va_get (D := D) (ci := 3) (v := .int (nI n)) (C := RX2) (T := TX2) (N := 12) hx hb hts hinX2 hown hK hP 0 rfl rfl 0 (by decide) (hts (.fieldLink RX2 25 "PuzzleBookModel" "blocks" "I") (by decide +kernel)) (fun _ h9 => h9) rfl dX2_free_13 ?_
    refine lv_iconst (v := nI 3) hx hb dX2_free_16 (by decide +kernel) ?_
    refine lv_isub hx hb dX2_free_17 ?_
    refine lv_aload_n hx hb dX2_free_18 rfl (lv_at hl 0 rfl) ?_
    refine va_get (D := D) (ci := 3) (v := .int (nI ec)) (C := RX2) (T := TX2) (N := 12) hx hb hts hinX2 hown hK hP 0 rfl rfl 4 (by decide) (hts (.fieldLink RX2 54 "PuzzleBookModel" "entries" "I") (by decide +kernel)) (fun _ h9 => h9) rfl dX2_free_19 ?_
    refine lv_isub hx hb dX2_free_22 ?_
    refine lv_goto (tgt := 27) hx hb dX2_free_23 (by decide) ?_
    exact rt_wi hx hb hr hlocks hP hD hS dX2_free_27 (by unfold q_free; rw [if_neg (by omega)])
set_option maxRecDepth 100000 in
set_option maxHeartbeats 4000000 in
/-- root() -/
theorem c_X2_root (l : Launch) (D : va_G) (m0 m1 m2 m3 m4 m5 : Nat) (cB cI : ClassId) (n : Nat) (L : Lg) (fd : Nat → Nat) (fc : Nat) (op : Nat) (tn : Nat) (eb : Nat → Nat) (ec : Nat) (th : Nat)  (sz : Nat) (ho : op ≤ 1) : Met l yX2_root wsX2_root ({ frames := 0, cells := 0, slots := 0, locals := 0 }) (wP [.ref m0] D (mW m0 m1 m2 m3 m4 m5 cB cI n L fd fc op tn eb ec th) (ty2 cB cI) sz) (wQi ((q_root op tn)) D (mW m0 m1 m2 m3 m4 m5 cB cI n L fd fc op tn eb ec 0) (va_A (mW m0 m1 m2 m3 m4 m5 cB cI n L fd fc op tn eb ec th) sz)) 0 0 (va_A (mW m0 m1 m2 m3 m4 m5 cB cI n L fd fc op tn eb ec th) sz) := by
  refine met_wi (by decide) rfl (Nat.le_of_ble_eq_true rfl) ?_
  intro p e s m below meth c hx hb hml hr hlocks hown hts hP hK A hD hA hS ls hl
  have hown : s.vm.findClass RX2 = some m.cls := hown
  have hinX2 : ∀ w ∈ u_ws RX2 TX2 12, w ∈ wsX2_root := by decide +kernel
  have hl : lv_has ls 1 [(0, .ref m0)] := hl
  refine lv_aload_n hx hb dX2_root_0 rfl (lv_at hl 0 rfl) ?_
  refine lv_iconst (v := nI 0) hx hb dX2_root_1 (by decide +kernel) ?_
  refine va_put (D := D) (ci := 3) (v := .int (nI 0)) (ty := .int) (C := RX2) (T := TX2) (N := 12) hx hb hts hinX2 tyX2 tyX2_ok nmX2 hown hK hP hD hS 0 rfl rfl 5 (by decide) (hts (.fieldLink RX2 46 "PuzzleBookModel" "thrown" "I") (by decide +kernel)) (fun _ h9 => h9) rfl (by decide +kernel) rfl rfl (Nat.le_of_ble_eq_true rfl) dX2_root_2 (fun H locs hP hD hS => ?_)
  have hP : va_P D vwCl (mW m0 m1 m2 m3 m4 m5 cB cI n L fd fc op tn eb ec 0) H := hP
  have hD : va_D A (mW m0 m1 m2 m3 m4 m5 cB cI n L fd fc op tn eb ec 0) := hD
  refine lv_aload_n hx hb dX2_root_5 rfl (lv_at hl 0 rfl) ?_
  refine va_get (D := D) (ci := 3) (v := .int (nI op)) (C := RX2) (T := TX2) (N := 12) hx hb hts hinX2 hown hK hP 0 rfl rfl 2 (by decide) (hts (.fieldLink RX2 32 "PuzzleBookModel" "open" "Z") (by decide +kernel)) (fun _ h9 => h9) rfl dX2_root_6 ?_
  refine j0_eq (tgt := 19) hx hb (nI_toInt (n := op) (by omega)) dX2_root_9 (by decide) (fun c1 => ?_) (fun c1 => ?_)
  · skip
    refine lv_iconst (v := -1) hx hb dX2_root_19 (by decide +kernel) ?_
    exact rt_wi hx hb hr hlocks hP hD hS dX2_root_20 (by unfold q_root; rw [if_pos (by omega)])
  · skip
    refine lv_aload_n hx hb dX2_root_12 rfl (lv_at hl 0 rfl) ?_
    refine va_get (D := D) (ci := 3) (v := .int (nI tn)) (C := RX2) (T := TX2) (N := 12) hx hb hts hinX2 hown hK hP 0 rfl rfl 3 (by decide) (hts (.fieldLink RX2 29 "PuzzleBookModel" "turn" "I") (by decide +kernel)) (fun _ h9 => h9) rfl dX2_root_13 ?_
    refine lv_goto (tgt := 20) hx hb dX2_root_16 (by decide) ?_
    exact rt_wi hx hb hr hlocks hP hD hS dX2_root_20 (by unfold q_root; rw [if_neg (by omega)])
set_option maxRecDepth 100000 in
set_option maxHeartbeats 4000000 in
/-- reopen() -/
theorem c_X2_reopen (l : Launch) (D : va_G) (m0 m1 m2 m3 m4 m5 : Nat) (cB cI : ClassId) (n : Nat) (L : Lg) (fd : Nat → Nat) (fc : Nat) (op : Nat) (tn : Nat) (eb : Nat → Nat) (ec : Nat) (th : Nat)  (sz : Nat) (hn0 : 4 ≤ n) (hn : n ≤ 64) (hg : ∀ j, L.1 j < 256) : Met l yX2_reopen wsX2_reopen ({ frames := 3, cells := 0, slots := 0, locals := 71 }) (wP [.ref m0] D (mW m0 m1 m2 m3 m4 m5 cB cI n L fd fc op tn eb ec th) (ty2 cB cI) sz) (wQi ((rmF L.1 n tn eb ec).2.2.2.2) D (mW m0 m1 m2 m3 m4 m5 cB cI n (w0 L) fd fc ((rmF L.1 n tn eb ec).1) ((rmF L.1 n tn eb ec).2.1) ((rmF L.1 n tn eb ec).2.2.1) ((rmF L.1 n tn eb ec).2.2.2.1) 0) (va_A (mW m0 m1 m2 m3 m4 m5 cB cI n L fd fc op tn eb ec th) sz)) 0 0 (va_A (mW m0 m1 m2 m3 m4 m5 cB cI n L fd fc op tn eb ec th) sz) := by
  refine met_wi (by decide) rfl (Nat.le_of_ble_eq_true rfl) ?_
  intro p e s m below meth c hx hb hml hr hlocks hown hts hP hK A hD hA hS ls hl
  have hown : s.vm.findClass RX2 = some m.cls := hown
  have hinX2 : ∀ w ∈ u_ws RX2 TX2 12, w ∈ wsX2_reopen := by decide +kernel
  have hl : lv_has ls 6 [(0, .ref m0)] := hl
  have g0 := hg 0
  refine lv_aload_n hx hb dX2_reopen_0 rfl (lv_at hl 0 rfl) ?_
  refine lv_iconst (v := nI 0) hx hb dX2_reopen_1 (by decide +kernel) ?_
  refine va_put (D := D) (ci := 3) (v := .int (nI 0)) (ty := .int) (C := RX2) (T := TX2) (N := 12) hx hb hts hinX2 tyX2 tyX2_ok nmX2 hown hK hP hD hS 0 rfl rfl 5 (by decide) (hts (.fieldLink RX2 46 "PuzzleBookModel" "thrown" "I") (by decide +kernel)) (fun _ h9 => h9) rfl (by decide +kernel) rfl rfl (Nat.le_of_ble_eq_true rfl) dX2_reopen_2 (fun H locs hP hD hS => ?_)
  have hP : va_P D vwCl (mW m0 m1 m2 m3 m4 m5 cB cI n L fd fc op tn eb ec 0) H := hP
  have hD : va_D A (mW m0 m1 m2 m3 m4 m5 cB cI n L fd fc op tn eb ec 0) := hD
  refine lv_aload_n hx hb dX2_reopen_5 rfl (lv_at hl 0 rfl) ?_
  refine lv_iconst (v := nI 0) hx hb dX2_reopen_6 (by decide +kernel) ?_
  refine va_put (D := D) (ci := 3) (v := .int (nI 0)) (ty := .boolean) (C := RX2) (T := TX2) (N := 12) hx hb hts hinX2 tyX2 tyX2_ok nmX2 hown hK hP hD hS 0 rfl rfl 2 (by decide) (hts (.fieldLink RX2 32 "PuzzleBookModel" "open" "Z") (by decide +kernel)) (fun _ h9 => h9) rfl (by decide +kernel) rfl rfl (Nat.le_of_ble_eq_true rfl) dX2_reopen_7 (fun H locs hP hD hS => ?_)
  have hP : va_P D vwCl (mW m0 m1 m2 m3 m4 m5 cB cI n L fd fc 0 tn eb ec 0) H := hP
  have hD : va_D A (mW m0 m1 m2 m3 m4 m5 cB cI n L fd fc 0 tn eb ec 0) := hD
  refine lv_aload_n hx hb dX2_reopen_10 rfl (lv_at hl 0 rfl) ?_
  refine lv_iconst (v := nI 0) hx hb dX2_reopen_11 (by decide +kernel) ?_
  refine va_put (D := D) (ci := 3) (v := .int (nI 0)) (ty := .int) (C := RX2) (T := TX2) (N := 12) hx hb hts hinX2 tyX2 tyX2_ok nmX2 hown hK hP hD hS 0 rfl rfl 11 (by decide) (hts (.fieldLink RX2 43 "PuzzleBookModel" "written" "I") (by decide +kernel)) (fun _ h9 => h9) rfl (by decide +kernel) rfl rfl (Nat.le_of_ble_eq_true rfl) dX2_reopen_12 (fun H locs hP hD hS => ?_)
  have hP : va_P D vwCl (mW m0 m1 m2 m3 m4 m5 cB cI n (L.1, L.2.1, L.2.2.1, 0) fd fc 0 tn eb ec 0) H := hP
  have hD : va_D A (mW m0 m1 m2 m3 m4 m5 cB cI n (L.1, L.2.1, L.2.2.1, 0) fd fc 0 tn eb ec 0) := hD
  refine lv_aload_n hx hb dX2_reopen_15 rfl (lv_at hl 0 rfl) ?_
  refine va_get (D := D) (ci := 3) (v := .ref m1) (C := RX2) (T := TX2) (N := 12) hx hb hts hinX2 hown hK hP 0 rfl rfl 1 (by decide) (hts (.fieldLink RX2 7 "PuzzleBookModel" "store" "[I") (by decide +kernel)) (fun _ h9 => h9) rfl dX2_reopen_16 ?_
  refine lv_iconst (v := nI 0) hx hb dX2_reopen_19 (by decide +kernel) ?_
  refine ld_i (f := L.1) (k := 0) hx hb hK hP 1 1 rfl rfl (by omega) (by decide) dX2_reopen_20 ?_
  refine lv_istore_n (lv' := [(1, .int (nI (L.1 0))), (0, .ref m0)]) hx hb dX2_reopen_21 rfl hl (by decide) rfl (fun ls hl => ?_)
  refine lv_iload_n hx hb dX2_reopen_22 rfl (lv_at hl 0 rfl) ?_
  refine lv_iconst (v := nI 1) hx hb dX2_reopen_23 (by decide +kernel) ?_
  refine jb_eq (tgt := 34) hx hb (nI_toInt (n := L.1 0) (by omega)) (nI_toInt (n := 1) (by decide)) dX2_reopen_24 (by decide) (fun c1 => ?_) (fun c1 => ?_)
  · skip
    have t9 : t12 L.1 := by unfold t12; omega
    refine lv_aload_n hx hb dX2_reopen_34 rfl (lv_at hl 1 rfl) ?_
    refine lv_iload_n hx hb dX2_reopen_35 rfl (lv_at hl 0 rfl) ?_
    refine rd_V (As := [.int (nI (L.1 0))]) (rest := []) ⟨hx, hb, hml, hown, hts⟩ (c_X2_rootIsRight l D m0 m1 m2 m3 m4 m5 cB cI n (L.1, L.2.1, L.2.2.1, 0) fd fc 0 tn eb ec 0 (L.1 0) hn hg (by omega)) (cwV 1 hts gX2_reopen_X2_rootIsRight rfl rfl rfl (by decide +kernel) ⟨Nat.le_of_ble_eq_true rfl, Nat.le_of_ble_eq_true rfl⟩) hK hP [0, 1, 2, 3, 4, 5] rfl (ci := 3) rfl rfl (q0 := 0) rfl rfl hl.1 rfl (Nat.le_of_ble_eq_true rfl) dX2_reopen_36 ⟨Nat.zero_le _, Nat.zero_le _⟩ (fun r2 hr2 => ?_)
    subst hr2
    by_cases q3 : (rdO (L.1, L.2.1, L.2.2.1, 0).1 (L.1 0) n)
    · skip
      refine lv_as (y := nI 1) (congrArg nI (b01_t q3)) ?_
      refine j0_ne (tgt := 46) hx hb (nI_toInt (n := 1) (by decide)) dX2_reopen_39 (by decide) (fun c4 => ?_) (fun c4 => absurd c4 (by omega))
      have g1 := hg (64 * (L.1 0))
      have t40 : L.1 (64 * (L.1 0)) ≤ 40 := q3.1.2
      have x64 : ∀ k, k < L.1 (64 * (L.1 0)) → L.1 (64 * (L.1 0) + (1 + k)) < n := fun k hk => Nat.lt_of_not_le (fun q => q3.2 k hk (Or.inr (Or.inl q)))
      refine lv_aload_n hx hb dX2_reopen_46 rfl (lv_at hl 1 rfl) ?_
      refine va_get (D := D) (ci := 3) (v := .ref m1) (C := RX2) (T := TX2) (N := 12) hx hb hts hinX2 hown hK hP 0 rfl rfl 1 (by decide) (hts (.fieldLink RX2 7 "PuzzleBookModel" "store" "[I") (by decide +kernel)) (fun _ h9 => h9) rfl dX2_reopen_47 ?_
      refine lv_bipush (v := nI 64) hx hb dX2_reopen_50 (by decide +kernel) ?_
      refine lv_iload_n hx hb dX2_reopen_52 rfl (lv_at hl 0 rfl) ?_
      refine lv_imul hx hb dX2_reopen_53 ?_
      refine lv_as (y := nI (64 * (L.1 0))) (pk_mul _ _) ?_
      refine ld_i (f := L.1) (k := 64 * (L.1 0)) hx hb hK hP 1 1 rfl rfl (by omega) (by decide) dX2_reopen_54 ?_
      refine lv_istore_n (lv' := [(2, .int (nI (L.1 (64 * (L.1 0))))), (1, .int (nI (L.1 0))), (0, .ref m0)]) hx hb dX2_reopen_55 rfl hl (by decide) rfl (fun ls hl => ?_)
      refine lv_sipush (v := nI 1000) hx hb dX2_reopen_56 (by decide +kernel) ?_
      refine lv_istore_n (lv' := [(3, .int (nI 1000)), (2, .int (nI (L.1 (64 * (L.1 0))))), (1, .int (nI (L.1 0))), (0, .ref m0)]) hx hb dX2_reopen_59 rfl hl (by decide) rfl (fun ls hl => ?_)
      refine lv_iconst (v := nI 0) hx hb dX2_reopen_60 (by decide +kernel) ?_
      refine lv_istore (lv' := [(4, .int (nI 0)), (3, .int (nI 1000)), (2, .int (nI (L.1 (64 * (L.1 0))))), (1, .int (nI (L.1 0))), (0, .ref m0)]) hx hb dX2_reopen_61 hl (by decide) rfl (fun ls hl => ?_)
      have loop : ∀ (fu k x : Nat), k ≤ L.1 (64 * (L.1 0)) → L.1 (64 * (L.1 0)) - k < fu → x = lwN (wrE L.1) (fun k => L.1 (64 * (L.1 0) + (1 + k))) k → x ≤ 1000 → ∀ (H : Heap) (locs : List Loc), va_P D vwCl (mW m0 m1 m2 m3 m4 m5 cB cI n (L.1, L.2.1, L.2.2.1, 0) fd fc 0 tn eb ec 0) H → va_D A (mW m0 m1 m2 m3 m4 m5 cB cI n (L.1, L.2.1, L.2.2.1, 0) fd fc 0 tn eb ec 0) → va_S A s.heap H locs → ∀ ls : Array Slot, lv_has ls 6 [(4, .int (nI k)), (3, .int (nI x)), (2, .int (nI (L.1 (64 * (L.1 0))))), (0, .ref m0), (1, .int (nI (L.1 0)))] → W p l e ({ frames := 3, cells := 0, slots := 0, locals := 71 }) s m [.ref m0].toArray below meth c H locs 0 0 (MQ below (wQi ((rmF L.1 n tn eb ec).2.2.2.2) D (mW m0 m1 m2 m3 m4 m5 cB cI n (w0 L) fd fc ((rmF L.1 n tn eb ec).1) ((rmF L.1 n tn eb ec).2.1) ((rmF L.1 n tn eb ec).2.2.1) ((rmF L.1 n tn eb ec).2.2.2.1) 0) A) [.ref m0].toArray s 0 0 A) (F0 m 63 ls []) := by
        intro fu
        induction fu with
        | zero => intro k x hk hf; omega
        | succ fu ih =>
          intro k x hk hfu hx9 hx8 H locs hP hD hS ls hl
          refine lv_iload hx hb dX2_reopen_63 (lv_at hl 0 rfl) ?_
          refine lv_iload_n hx hb dX2_reopen_65 rfl (lv_at hl 2 rfl) ?_
          refine jb_ge (tgt := 109) hx hb (nI_toInt (n := k) (by omega)) (nI_toInt (n := L.1 (64 * (L.1 0))) (by omega)) dX2_reopen_66 (by decide) (fun c5 => ?_) (fun c5 => ?_)
          · skip
            have k9 : k = L.1 (64 * (L.1 0)) := by omega
            rw [k9] at hx9
            refine lv_iload_n hx hb dX2_reopen_109 rfl (lv_at hl 1 rfl) ?_
            refine lv_sipush (v := nI 1000) hx hb dX2_reopen_110 (by decide +kernel) ?_
            refine jb_ge (tgt := 120) hx hb (nI_toInt (n := x) (by omega)) (nI_toInt (n := 1000) (by decide)) dX2_reopen_113 (by decide) (fun c6 => ?_) (fun c6 => ?_)
            · skip
              rw [rmF_o t9 q3 (by omega)]
              refine lv_aload_n hx hb dX2_reopen_120 rfl (lv_at hl 3 rfl) ?_
              refine lv_iload_n hx hb dX2_reopen_121 rfl (lv_at hl 4 rfl) ?_
              refine va_put (D := D) (ci := 3) (v := .int (nI (L.1 0))) (ty := .int) (C := RX2) (T := TX2) (N := 12) hx hb hts hinX2 tyX2 tyX2_ok nmX2 hown hK hP hD hS 0 rfl rfl 3 (by decide) (hts (.fieldLink RX2 29 "PuzzleBookModel" "turn" "I") (by decide +kernel)) (fun _ h9 => h9) rfl (by decide +kernel) rfl rfl (Nat.le_of_ble_eq_true rfl) dX2_reopen_122 (fun H locs hP hD hS => ?_)
              have hP : va_P D vwCl (mW m0 m1 m2 m3 m4 m5 cB cI n (L.1, L.2.1, L.2.2.1, 0) fd fc 0 (L.1 0) eb ec 0) H := hP
              have hD : va_D A (mW m0 m1 m2 m3 m4 m5 cB cI n (L.1, L.2.1, L.2.2.1, 0) fd fc 0 (L.1 0) eb ec 0) := hD
              refine lv_aload_n hx hb dX2_reopen_125 rfl (lv_at hl 3 rfl) ?_
              refine lv_iload_n hx hb dX2_reopen_126 rfl (lv_at hl 2 rfl) ?_
              refine va_put (D := D) (ci := 3) (v := .int (nI (L.1 (64 * (L.1 0))))) (ty := .int) (C := RX2) (T := TX2) (N := 12) hx hb hts hinX2 tyX2 tyX2_ok nmX2 hown hK hP hD hS 0 rfl rfl 4 (by decide) (hts (.fieldLink RX2 54 "PuzzleBookModel" "entries" "I") (by decide +kernel)) (fun _ h9 => h9) rfl (by decide +kernel) rfl rfl (Nat.le_of_ble_eq_true rfl) dX2_reopen_127 (fun H locs hP hD hS => ?_)
              have hP : va_P D vwCl (mW m0 m1 m2 m3 m4 m5 cB cI n (L.1, L.2.1, L.2.2.1, 0) fd fc 0 (L.1 0) eb (L.1 (64 * (L.1 0))) 0) H := hP
              have hD : va_D A (mW m0 m1 m2 m3 m4 m5 cB cI n (L.1, L.2.1, L.2.2.1, 0) fd fc 0 (L.1 0) eb (L.1 (64 * (L.1 0))) 0) := hD
              refine lv_iconst (v := nI 0) hx hb dX2_reopen_130 (by decide +kernel) ?_
              refine lv_istore (lv' := [(4, .int (nI 0)), (3, .int (nI x)), (2, .int (nI (L.1 (64 * (L.1 0))))), (0, .ref m0), (1, .int (nI (L.1 0)))]) hx hb dX2_reopen_131 hl (by decide) rfl (fun ls hl => ?_)
              have loop2 : ∀ (fv i : Nat), i ≤ L.1 (64 * (L.1 0)) → L.1 (64 * (L.1 0)) - i < fv → ∀ (H : Heap) (locs : List Loc), va_P D vwCl (mW m0 m1 m2 m3 m4 m5 cB cI n (L.1, L.2.1, L.2.2.1, 0) fd fc 0 (L.1 0) (cpE L.1 (L.1 0) eb i) (L.1 (64 * (L.1 0))) 0) H → va_D A (mW m0 m1 m2 m3 m4 m5 cB cI n (L.1, L.2.1, L.2.2.1, 0) fd fc 0 (L.1 0) (cpE L.1 (L.1 0) eb i) (L.1 (64 * (L.1 0))) 0) → va_S A s.heap H locs → ∀ ls : Array Slot, lv_has ls 6 [(4, .int (nI i)), (2, .int (nI (L.1 (64 * (L.1 0))))), (0, .ref m0), (1, .int (nI (L.1 0)))] → W p l e ({ frames := 3, cells := 0, slots := 0, locals := 71 }) s m [.ref m0].toArray below meth c H locs 0 0 (MQ below (wQi (nI (L.1 (64 * (L.1 0)))) D (mW m0 m1 m2 m3 m4 m5 cB cI n (L.1, L.2.1, L.2.2.1, 0) fd fc 1 (L.1 0) (cpE L.1 (L.1 0) eb (L.1 (64 * (L.1 0)))) (L.1 (64 * (L.1 0))) 0) A) [.ref m0].toArray s 0 0 A) (F0 m 133 ls []) := by
                intro fv
                induction fv with
                | zero => intro i hi hf; omega
                | succ fv ih2 =>
                  intro i hi hfv H locs hP hD hS ls hl
                  refine lv_iload hx hb dX2_reopen_133 (lv_at hl 0 rfl) ?_
                  refine lv_iload_n hx hb dX2_reopen_135 rfl (lv_at hl 1 rfl) ?_
                  refine jb_ge (tgt := 166) hx hb (nI_toInt (n := i) (by omega)) (nI_toInt (n := L.1 (64 * (L.1 0))) (by omega)) dX2_reopen_136 (by decide) (fun c7 => ?_) (fun c7 => ?_)
                  · skip
                    have i9 : i = L.1 (64 * (L.1 0)) := by omega
                    rw [i9] at hP hD
                    refine lv_aload_n hx hb dX2_reopen_166 rfl (lv_at hl 2 rfl) ?_
                    refine lv_iconst (v := nI 1) hx hb dX2_reopen_167 (by decide +kernel) ?_
                    refine va_put (D := D) (ci := 3) (v := .int (nI 1)) (ty := .boolean) (C := RX2) (T := TX2) (N := 12) hx hb hts hinX2 tyX2 tyX2_ok nmX2 hown hK hP hD hS 0 rfl rfl 2 (by decide) (hts (.fieldLink RX2 32 "PuzzleBookModel" "open" "Z") (by decide +kernel)) (fun _ h9 => h9) rfl (by decide +kernel) rfl rfl (Nat.le_of_ble_eq_true rfl) dX2_reopen_168 (fun H locs hP hD hS => ?_)
                    have hP : va_P D vwCl (mW m0 m1 m2 m3 m4 m5 cB cI n (L.1, L.2.1, L.2.2.1, 0) fd fc 1 (L.1 0) (cpE L.1 (L.1 0) eb (L.1 (64 * (L.1 0)))) (L.1 (64 * (L.1 0))) 0) H := hP
                    have hD : va_D A (mW m0 m1 m2 m3 m4 m5 cB cI n (L.1, L.2.1, L.2.2.1, 0) fd fc 1 (L.1 0) (cpE L.1 (L.1 0) eb (L.1 (64 * (L.1 0)))) (L.1 (64 * (L.1 0))) 0) := hD
                    refine lv_iload_n hx hb dX2_reopen_171 rfl (lv_at hl 1 rfl) ?_
                    exact rt_wi hx hb hr hlocks hP hD hS dX2_reopen_172 rfl
                  · skip
                    refine lv_aload_n hx hb dX2_reopen_139 rfl (lv_at hl 2 rfl) ?_
                    refine va_get (D := D) (ci := 3) (v := .ref m2) (C := RX2) (T := TX2) (N := 12) hx hb hts hinX2 hown hK hP 0 rfl rfl 6 (by decide) (hts (.fieldLink RX2 13 "PuzzleBookModel" "block" "[I") (by decide +kernel)) (fun _ h9 => h9) rfl dX2_reopen_140 ?_
                    refine lv_iload hx hb dX2_reopen_143 (lv_at hl 0 rfl) ?_
                    refine lv_aload_n hx hb dX2_reopen_145 rfl (lv_at hl 2 rfl) ?_
                    refine va_get (D := D) (ci := 3) (v := .ref m1) (C := RX2) (T := TX2) (N := 12) hx hb hts hinX2 hown hK hP 0 rfl rfl 1 (by decide) (hts (.fieldLink RX2 7 "PuzzleBookModel" "store" "[I") (by decide +kernel)) (fun _ h9 => h9) rfl dX2_reopen_146 ?_
                    refine lv_bipush (v := nI 64) hx hb dX2_reopen_149 (by decide +kernel) ?_
                    refine lv_iload_n hx hb dX2_reopen_151 rfl (lv_at hl 3 rfl) ?_
                    refine lv_imul hx hb dX2_reopen_152 ?_
                    refine lv_as (y := nI (64 * (L.1 0))) (pk_mul _ _) ?_
                    refine lv_iconst (v := nI 1) hx hb dX2_reopen_153 (by decide +kernel) ?_
                    refine lv_iadd hx hb dX2_reopen_154 ?_
                    refine lv_as (y := nI ((64 * (L.1 0)) + 1)) (nI_add _ _) ?_
                    refine lv_iload hx hb dX2_reopen_155 (lv_at hl 0 rfl) ?_
                    refine lv_iadd hx hb dX2_reopen_157 ?_
                    refine lv_as (y := nI (((64 * (L.1 0)) + 1) + i)) (nI_add _ _) ?_
                    refine lv_as (y := nI (64 * (L.1 0) + (1 + i))) (congrArg nI (by omega)) ?_
                    refine ld_i (f := L.1) (k := 64 * (L.1 0) + (1 + i)) hx hb hK hP 1 1 rfl rfl (by omega) (by decide) dX2_reopen_158 ?_
                    refine st_i (f := cpE L.1 (L.1 0) eb i) (k := i) (x := L.1 (64 * (L.1 0) + (1 + i))) hx hb hK hP hD hS 2 1 rfl rfl (by omega) (by decide) dX2_reopen_159 (fun H locs hP hD hS => ?_)
                    have hP : va_P D vwCl (mW m0 m1 m2 m3 m4 m5 cB cI n (L.1, L.2.1, L.2.2.1, 0) fd fc 0 (L.1 0) (va_up (cpE L.1 (L.1 0) eb i) i (L.1 (64 * (L.1 0) + (1 + i)))) (L.1 (64 * (L.1 0))) 0) H := hP
                    have hD : va_D A (mW m0 m1 m2 m3 m4 m5 cB cI n (L.1, L.2.1, L.2.2.1, 0) fd fc 0 (L.1 0) (va_up (cpE L.1 (L.1 0) eb i) i (L.1 (64 * (L.1 0) + (1 + i)))) (L.1 (64 * (L.1 0))) 0) := hD
                    refine lv_iinc (v := nI (i + 1)) (lv' := [(4, .int (nI (i + 1))), (2, .int (nI (L.1 (64 * (L.1 0))))), (0, .ref m0), (1, .int (nI (L.1 0)))]) hx hb dX2_reopen_160 hl (k := 0) rfl (nI_add _ 1) (by decide) rfl (fun ls hl => ?_)
                    refine lv_goto (tgt := 133) hx hb dX2_reopen_163 (by decide) ?_
                    exact ih2 (i + 1) (by omega) (by omega) H locs hP hD hS ls (lv_sub hl [0, 1, 2, 3] rfl)
              exact loop2 41 0 (by omega) (by omega) H locs hP hD hS ls (lv_sub hl [0, 2, 3, 4] rfl)
            · skip
              rw [rmF_e t9 q3 (by omega), ← hx9]
              refine lv_iconst (v := -1) hx hb dX2_reopen_116 (by decide +kernel) ?_
              refine lv_iload_n hx hb dX2_reopen_117 rfl (lv_at hl 1 rfl) ?_
              refine lv_isub hx hb dX2_reopen_118 ?_
              exact rt_wi hx hb hr hlocks hP hD hS dX2_reopen_119 rfl
          · skip
            have xk := x64 k (by omega)
            refine lv_aload_n hx hb dX2_reopen_69 rfl (lv_at hl 3 rfl) ?_
            refine va_get (D := D) (ci := 3) (v := .ref m1) (C := RX2) (T := TX2) (N := 12) hx hb hts hinX2 hown hK hP 0 rfl rfl 1 (by decide) (hts (.fieldLink RX2 7 "PuzzleBookModel" "store" "[I") (by decide +kernel)) (fun _ h9 => h9) rfl dX2_reopen_70 ?_
            refine lv_bipush (v := nI 64) hx hb dX2_reopen_73 (by decide +kernel) ?_
            refine lv_iload_n hx hb dX2_reopen_75 rfl (lv_at hl 4 rfl) ?_
            refine lv_imul hx hb dX2_reopen_76 ?_
            refine lv_as (y := nI (64 * (L.1 0))) (pk_mul _ _) ?_
            refine lv_iconst (v := nI 1) hx hb dX2_reopen_77 (by decide +kernel) ?_
            refine lv_iadd hx hb dX2_reopen_78 ?_
            refine lv_as (y := nI ((64 * (L.1 0)) + 1)) (nI_add _ _) ?_
            refine lv_iload hx hb dX2_reopen_79 (lv_at hl 0 rfl) ?_
            refine lv_iadd hx hb dX2_reopen_81 ?_
            refine lv_as (y := nI (((64 * (L.1 0)) + 1) + k)) (nI_add _ _) ?_
            refine lv_as (y := nI (64 * (L.1 0) + (1 + k))) (congrArg nI (by omega)) ?_
            refine ld_i (f := L.1) (k := 64 * (L.1 0) + (1 + k)) hx hb hK hP 1 1 rfl rfl (by omega) (by decide) dX2_reopen_82 ?_
            refine lv_istore (lv' := [(5, .int (nI (L.1 (64 * (L.1 0) + (1 + k))))), (4, .int (nI k)), (3, .int (nI x)), (2, .int (nI (L.1 (64 * (L.1 0))))), (0, .ref m0), (1, .int (nI (L.1 0)))]) hx hb dX2_reopen_83 hl (by decide) rfl (fun ls hl => ?_)
            refine lv_aload_n hx hb dX2_reopen_85 rfl (lv_at hl 4 rfl) ?_
            refine lv_iload hx hb dX2_reopen_86 (lv_at hl 0 rfl) ?_
            refine rd_V (As := [.int (nI (L.1 (64 * (L.1 0) + (1 + k))))]) (rest := []) ⟨hx, hb, hml, hown, hts⟩ (c_X2_entryIsRight l D m0 m1 m2 m3 m4 m5 cB cI n (L.1, L.2.1, L.2.2.1, 0) fd fc 0 tn eb ec 0 (L.1 (64 * (L.1 0) + (1 + k))) hg (by omega)) (cwV 1 hts gX2_reopen_X2_entryIsRight rfl rfl rfl (by decide +kernel) ⟨Nat.le_of_ble_eq_true rfl, Nat.le_of_ble_eq_true rfl⟩) hK hP [0, 1, 2, 3, 4, 5] rfl (ci := 3) rfl rfl (q0 := 0) rfl rfl hl.1 rfl (Nat.le_of_ble_eq_true rfl) dX2_reopen_88 ⟨Nat.zero_le _, Nat.zero_le _⟩ (fun r8 hr8 => ?_)
            subst hr8
            by_cases q9 : (¬ wrE (L.1, L.2.1, L.2.2.1, 0).1 (L.1 (64 * (L.1 0) + (1 + k))))
            · skip
              refine lv_as (y := nI 1) (congrArg nI (b01_t q9)) ?_
              refine j0_ne (tgt := 103) hx hb (nI_toInt (n := 1) (by decide)) dX2_reopen_91 (by decide) (fun c10 => ?_) (fun c10 => absurd c10 (by omega))
              refine lv_iinc (v := nI (k + 1)) (lv' := [(4, .int (nI (k + 1))), (5, .int (nI (L.1 (64 * (L.1 0) + (1 + k))))), (3, .int (nI x)), (2, .int (nI (L.1 (64 * (L.1 0))))), (0, .ref m0), (1, .int (nI (L.1 0)))]) hx hb dX2_reopen_103 hl (k := 1) rfl (nI_add _ 1) (by decide) rfl (fun ls hl => ?_)
              refine lv_goto (tgt := 63) hx hb dX2_reopen_106 (by decide) ?_
              exact ih (k + 1) x (by omega) (by omega) (by rw [lwN_f (P := wrE L.1) (E := (fun k => L.1 (64 * (L.1 0) + (1 + k)))) q9]; exact hx9) (by omega) H locs hP hD hS ls (lv_sub hl [0, 2, 3, 4, 5] rfl)
            · skip
              refine lv_as (y := nI 0) (congrArg nI (b01_f q9)) ?_
              refine j0_ne (tgt := 103) hx hb (nI_toInt (n := 0) (by decide)) dX2_reopen_91 (by decide) (fun c11 => absurd c11 (by omega)) (fun c11 => ?_)
              have qq : wrE L.1 ((fun k => L.1 (64 * (L.1 0) + (1 + k))) k) := Classical.byContradiction q9
              refine lv_iload hx hb dX2_reopen_94 (lv_at hl 0 rfl) ?_
              refine lv_iload_n hx hb dX2_reopen_96 rfl (lv_at hl 2 rfl) ?_
              refine jb_ge (tgt := 103) hx hb (nI_toInt (n := L.1 (64 * (L.1 0) + (1 + k))) (by omega)) (nI_toInt (n := x) (by omega)) dX2_reopen_97 (by decide) (fun c12 => ?_) (fun c12 => ?_)
              · skip
                refine lv_iinc (v := nI (k + 1)) (lv' := [(4, .int (nI (k + 1))), (5, .int (nI (L.1 (64 * (L.1 0) + (1 + k))))), (3, .int (nI x)), (2, .int (nI (L.1 (64 * (L.1 0))))), (0, .ref m0), (1, .int (nI (L.1 0)))]) hx hb dX2_reopen_103 hl (k := 1) rfl (nI_add _ 1) (by decide) rfl (fun ls hl => ?_)
                refine lv_goto (tgt := 63) hx hb dX2_reopen_106 (by decide) ?_
                exact ih (k + 1) x (by omega) (by omega) (by rw [lwN_t (P := wrE L.1) (E := (fun k => L.1 (64 * (L.1 0) + (1 + k)))) qq, ← hx9]; exact (Nat.min_eq_left (by omega)).symm) (by omega) H locs hP hD hS ls (lv_sub hl [0, 2, 3, 4, 5] rfl)
              · skip
                refine lv_iload hx hb dX2_reopen_100 (lv_at hl 0 rfl) ?_
                refine lv_istore_n (lv' := [(3, .int (nI (L.1 (64 * (L.1 0) + (1 + k))))), (5, .int (nI (L.1 (64 * (L.1 0) + (1 + k))))), (4, .int (nI k)), (2, .int (nI (L.1 (64 * (L.1 0))))), (0, .ref m0), (1, .int (nI (L.1 0)))]) hx hb dX2_reopen_102 rfl hl (by decide) rfl (fun ls hl => ?_)
                refine lv_iinc (v := nI (k + 1)) (lv' := [(4, .int (nI (k + 1))), (3, .int (nI (L.1 (64 * (L.1 0) + (1 + k))))), (5, .int (nI (L.1 (64 * (L.1 0) + (1 + k))))), (2, .int (nI (L.1 (64 * (L.1 0))))), (0, .ref m0), (1, .int (nI (L.1 0)))]) hx hb dX2_reopen_103 hl (k := 2) rfl (nI_add _ 1) (by decide) rfl (fun ls hl => ?_)
                refine lv_goto (tgt := 63) hx hb dX2_reopen_106 (by decide) ?_
                exact ih (k + 1) (L.1 (64 * (L.1 0) + (1 + k))) (by omega) (by omega) (by rw [lwN_t (P := wrE L.1) (E := (fun k => L.1 (64 * (L.1 0) + (1 + k)))) qq, ← hx9]; exact (Nat.min_eq_right (by omega)).symm) (by omega) H locs hP hD hS ls (lv_sub hl [0, 1, 3, 4, 5] rfl)
      exact loop 41 0 1000 (by omega) (by omega) rfl (by omega) H locs hP hD hS ls (lv_sub hl [0, 1, 2, 4, 3] rfl)
    · skip
      refine lv_as (y := nI 0) (congrArg nI (b01_f q3)) ?_
      refine j0_ne (tgt := 46) hx hb (nI_toInt (n := 0) (by decide)) dX2_reopen_39 (by decide) (fun c13 => absurd c13 (by omega)) (fun c13 => ?_)
      rw [rmF_r t9 q3]
      refine lv_iconst (v := -1) hx hb dX2_reopen_42 (by decide +kernel) ?_
      refine lv_iload_n hx hb dX2_reopen_43 rfl (lv_at hl 0 rfl) ?_
      refine lv_isub hx hb dX2_reopen_44 ?_
      exact rt_wi hx hb hr hlocks hP hD hS dX2_reopen_45 rfl
  · skip
    refine lv_iload_n hx hb dX2_reopen_27 rfl (lv_at hl 0 rfl) ?_
    refine lv_iconst (v := nI 2) hx hb dX2_reopen_28 (by decide +kernel) ?_
    refine jb_eq (tgt := 34) hx hb (nI_toInt (n := L.1 0) (by omega)) (nI_toInt (n := 2) (by decide)) dX2_reopen_29 (by decide) (fun c14 => ?_) (fun c14 => ?_)
    · skip
      have t9 : t12 L.1 := by unfold t12; omega
      refine lv_aload_n hx hb dX2_reopen_34 rfl (lv_at hl 1 rfl) ?_
      refine lv_iload_n hx hb dX2_reopen_35 rfl (lv_at hl 0 rfl) ?_
      refine rd_V (As := [.int (nI (L.1 0))]) (rest := []) ⟨hx, hb, hml, hown, hts⟩ (c_X2_rootIsRight l D m0 m1 m2 m3 m4 m5 cB cI n (L.1, L.2.1, L.2.2.1, 0) fd fc 0 tn eb ec 0 (L.1 0) hn hg (by omega)) (cwV 1 hts gX2_reopen_X2_rootIsRight rfl rfl rfl (by decide +kernel) ⟨Nat.le_of_ble_eq_true rfl, Nat.le_of_ble_eq_true rfl⟩) hK hP [0, 1, 2, 3, 4, 5] rfl (ci := 3) rfl rfl (q0 := 0) rfl rfl hl.1 rfl (Nat.le_of_ble_eq_true rfl) dX2_reopen_36 ⟨Nat.zero_le _, Nat.zero_le _⟩ (fun r15 hr15 => ?_)
      subst hr15
      by_cases q16 : (rdO (L.1, L.2.1, L.2.2.1, 0).1 (L.1 0) n)
      · skip
        refine lv_as (y := nI 1) (congrArg nI (b01_t q16)) ?_
        refine j0_ne (tgt := 46) hx hb (nI_toInt (n := 1) (by decide)) dX2_reopen_39 (by decide) (fun c17 => ?_) (fun c17 => absurd c17 (by omega))
        have g1 := hg (64 * (L.1 0))
        have t40 : L.1 (64 * (L.1 0)) ≤ 40 := q16.1.2
        have x64 : ∀ k, k < L.1 (64 * (L.1 0)) → L.1 (64 * (L.1 0) + (1 + k)) < n := fun k hk => Nat.lt_of_not_le (fun q => q16.2 k hk (Or.inr (Or.inl q)))
        refine lv_aload_n hx hb dX2_reopen_46 rfl (lv_at hl 1 rfl) ?_
        refine va_get (D := D) (ci := 3) (v := .ref m1) (C := RX2) (T := TX2) (N := 12) hx hb hts hinX2 hown hK hP 0 rfl rfl 1 (by decide) (hts (.fieldLink RX2 7 "PuzzleBookModel" "store" "[I") (by decide +kernel)) (fun _ h9 => h9) rfl dX2_reopen_47 ?_
        refine lv_bipush (v := nI 64) hx hb dX2_reopen_50 (by decide +kernel) ?_
        refine lv_iload_n hx hb dX2_reopen_52 rfl (lv_at hl 0 rfl) ?_
        refine lv_imul hx hb dX2_reopen_53 ?_
        refine lv_as (y := nI (64 * (L.1 0))) (pk_mul _ _) ?_
        refine ld_i (f := L.1) (k := 64 * (L.1 0)) hx hb hK hP 1 1 rfl rfl (by omega) (by decide) dX2_reopen_54 ?_
        refine lv_istore_n (lv' := [(2, .int (nI (L.1 (64 * (L.1 0))))), (1, .int (nI (L.1 0))), (0, .ref m0)]) hx hb dX2_reopen_55 rfl hl (by decide) rfl (fun ls hl => ?_)
        refine lv_sipush (v := nI 1000) hx hb dX2_reopen_56 (by decide +kernel) ?_
        refine lv_istore_n (lv' := [(3, .int (nI 1000)), (2, .int (nI (L.1 (64 * (L.1 0))))), (1, .int (nI (L.1 0))), (0, .ref m0)]) hx hb dX2_reopen_59 rfl hl (by decide) rfl (fun ls hl => ?_)
        refine lv_iconst (v := nI 0) hx hb dX2_reopen_60 (by decide +kernel) ?_
        refine lv_istore (lv' := [(4, .int (nI 0)), (3, .int (nI 1000)), (2, .int (nI (L.1 (64 * (L.1 0))))), (1, .int (nI (L.1 0))), (0, .ref m0)]) hx hb dX2_reopen_61 hl (by decide) rfl (fun ls hl => ?_)
        have loop : ∀ (fu k x : Nat), k ≤ L.1 (64 * (L.1 0)) → L.1 (64 * (L.1 0)) - k < fu → x = lwN (wrE L.1) (fun k => L.1 (64 * (L.1 0) + (1 + k))) k → x ≤ 1000 → ∀ (H : Heap) (locs : List Loc), va_P D vwCl (mW m0 m1 m2 m3 m4 m5 cB cI n (L.1, L.2.1, L.2.2.1, 0) fd fc 0 tn eb ec 0) H → va_D A (mW m0 m1 m2 m3 m4 m5 cB cI n (L.1, L.2.1, L.2.2.1, 0) fd fc 0 tn eb ec 0) → va_S A s.heap H locs → ∀ ls : Array Slot, lv_has ls 6 [(4, .int (nI k)), (3, .int (nI x)), (2, .int (nI (L.1 (64 * (L.1 0))))), (0, .ref m0), (1, .int (nI (L.1 0)))] → W p l e ({ frames := 3, cells := 0, slots := 0, locals := 71 }) s m [.ref m0].toArray below meth c H locs 0 0 (MQ below (wQi ((rmF L.1 n tn eb ec).2.2.2.2) D (mW m0 m1 m2 m3 m4 m5 cB cI n (w0 L) fd fc ((rmF L.1 n tn eb ec).1) ((rmF L.1 n tn eb ec).2.1) ((rmF L.1 n tn eb ec).2.2.1) ((rmF L.1 n tn eb ec).2.2.2.1) 0) A) [.ref m0].toArray s 0 0 A) (F0 m 63 ls []) := by
          intro fu
          induction fu with
          | zero => intro k x hk hf; omega
          | succ fu ih =>
            intro k x hk hfu hx9 hx8 H locs hP hD hS ls hl
            refine lv_iload hx hb dX2_reopen_63 (lv_at hl 0 rfl) ?_
            refine lv_iload_n hx hb dX2_reopen_65 rfl (lv_at hl 2 rfl) ?_
            refine jb_ge (tgt := 109) hx hb (nI_toInt (n := k) (by omega)) (nI_toInt (n := L.1 (64 * (L.1 0))) (by omega)) dX2_reopen_66 (by decide) (fun c18 => ?_) (fun c18 => ?_)
            · skip
              have k9 : k = L.1 (64 * (L.1 0)) := by omega
              rw [k9] at hx9
              refine lv_iload_n hx hb dX2_reopen_109 rfl (lv_at hl 1 rfl) ?_
              refine lv_sipush (v := nI 1000) hx hb dX2_reopen_110 (by decide +kernel) ?_
              refine jb_ge (tgt := 120) hx hb (nI_toInt (n := x) (by omega)) (nI_toInt (n := 1000) (by decide)) dX2_reopen_113 (by decide) (fun c19 => ?_) (fun c19 => ?_)
              · skip
                rw [rmF_o t9 q16 (by omega)]
                refine lv_aload_n hx hb dX2_reopen_120 rfl (lv_at hl 3 rfl) ?_
                refine lv_iload_n hx hb dX2_reopen_121 rfl (lv_at hl 4 rfl) ?_
                refine va_put (D := D) (ci := 3) (v := .int (nI (L.1 0))) (ty := .int) (C := RX2) (T := TX2) (N := 12) hx hb hts hinX2 tyX2 tyX2_ok nmX2 hown hK hP hD hS 0 rfl rfl 3 (by decide) (hts (.fieldLink RX2 29 "PuzzleBookModel" "turn" "I") (by decide +kernel)) (fun _ h9 => h9) rfl (by decide +kernel) rfl rfl (Nat.le_of_ble_eq_true rfl) dX2_reopen_122 (fun H locs hP hD hS => ?_)
                have hP : va_P D vwCl (mW m0 m1 m2 m3 m4 m5 cB cI n (L.1, L.2.1, L.2.2.1, 0) fd fc 0 (L.1 0) eb ec 0) H := hP
                have hD : va_D A (mW m0 m1 m2 m3 m4 m5 cB cI n (L.1, L.2.1, L.2.2.1, 0) fd fc 0 (L.1 0) eb ec 0) := hD
                refine lv_aload_n hx hb dX2_reopen_125 rfl (lv_at hl 3 rfl) ?_
                refine lv_iload_n hx hb dX2_reopen_126 rfl (lv_at hl 2 rfl) ?_
                refine va_put (D := D) (ci := 3) (v := .int (nI (L.1 (64 * (L.1 0))))) (ty := .int) (C := RX2) (T := TX2) (N := 12) hx hb hts hinX2 tyX2 tyX2_ok nmX2 hown hK hP hD hS 0 rfl rfl 4 (by decide) (hts (.fieldLink RX2 54 "PuzzleBookModel" "entries" "I") (by decide +kernel)) (fun _ h9 => h9) rfl (by decide +kernel) rfl rfl (Nat.le_of_ble_eq_true rfl) dX2_reopen_127 (fun H locs hP hD hS => ?_)
                have hP : va_P D vwCl (mW m0 m1 m2 m3 m4 m5 cB cI n (L.1, L.2.1, L.2.2.1, 0) fd fc 0 (L.1 0) eb (L.1 (64 * (L.1 0))) 0) H := hP
                have hD : va_D A (mW m0 m1 m2 m3 m4 m5 cB cI n (L.1, L.2.1, L.2.2.1, 0) fd fc 0 (L.1 0) eb (L.1 (64 * (L.1 0))) 0) := hD
                refine lv_iconst (v := nI 0) hx hb dX2_reopen_130 (by decide +kernel) ?_
                refine lv_istore (lv' := [(4, .int (nI 0)), (3, .int (nI x)), (2, .int (nI (L.1 (64 * (L.1 0))))), (0, .ref m0), (1, .int (nI (L.1 0)))]) hx hb dX2_reopen_131 hl (by decide) rfl (fun ls hl => ?_)
                have loop2 : ∀ (fv i : Nat), i ≤ L.1 (64 * (L.1 0)) → L.1 (64 * (L.1 0)) - i < fv → ∀ (H : Heap) (locs : List Loc), va_P D vwCl (mW m0 m1 m2 m3 m4 m5 cB cI n (L.1, L.2.1, L.2.2.1, 0) fd fc 0 (L.1 0) (cpE L.1 (L.1 0) eb i) (L.1 (64 * (L.1 0))) 0) H → va_D A (mW m0 m1 m2 m3 m4 m5 cB cI n (L.1, L.2.1, L.2.2.1, 0) fd fc 0 (L.1 0) (cpE L.1 (L.1 0) eb i) (L.1 (64 * (L.1 0))) 0) → va_S A s.heap H locs → ∀ ls : Array Slot, lv_has ls 6 [(4, .int (nI i)), (2, .int (nI (L.1 (64 * (L.1 0))))), (0, .ref m0), (1, .int (nI (L.1 0)))] → W p l e ({ frames := 3, cells := 0, slots := 0, locals := 71 }) s m [.ref m0].toArray below meth c H locs 0 0 (MQ below (wQi (nI (L.1 (64 * (L.1 0)))) D (mW m0 m1 m2 m3 m4 m5 cB cI n (L.1, L.2.1, L.2.2.1, 0) fd fc 1 (L.1 0) (cpE L.1 (L.1 0) eb (L.1 (64 * (L.1 0)))) (L.1 (64 * (L.1 0))) 0) A) [.ref m0].toArray s 0 0 A) (F0 m 133 ls []) := by
                  intro fv
                  induction fv with
                  | zero => intro i hi hf; omega
                  | succ fv ih2 =>
                    intro i hi hfv H locs hP hD hS ls hl
                    refine lv_iload hx hb dX2_reopen_133 (lv_at hl 0 rfl) ?_
                    refine lv_iload_n hx hb dX2_reopen_135 rfl (lv_at hl 1 rfl) ?_
                    refine jb_ge (tgt := 166) hx hb (nI_toInt (n := i) (by omega)) (nI_toInt (n := L.1 (64 * (L.1 0))) (by omega)) dX2_reopen_136 (by decide) (fun c20 => ?_) (fun c20 => ?_)
                    · skip
                      have i9 : i = L.1 (64 * (L.1 0)) := by omega
                      rw [i9] at hP hD
                      refine lv_aload_n hx hb dX2_reopen_166 rfl (lv_at hl 2 rfl) ?_
                      refine lv_iconst (v := nI 1) hx hb dX2_reopen_167 (by decide +kernel) ?_
                      refine va_put (D := D) (ci := 3) (v := .int (nI 1)) (ty := .boolean) (C := RX2) (T := TX2) (N := 12) hx hb hts hinX2 tyX2 tyX2_ok nmX2 hown hK hP hD hS 0 rfl rfl 2 (by decide) (hts (.fieldLink RX2 32 "PuzzleBookModel" "open" "Z") (by decide +kernel)) (fun _ h9 => h9) rfl (by decide +kernel) rfl rfl (Nat.le_of_ble_eq_true rfl) dX2_reopen_168 (fun H locs hP hD hS => ?_)
                      have hP : va_P D vwCl (mW m0 m1 m2 m3 m4 m5 cB cI n (L.1, L.2.1, L.2.2.1, 0) fd fc 1 (L.1 0) (cpE L.1 (L.1 0) eb (L.1 (64 * (L.1 0)))) (L.1 (64 * (L.1 0))) 0) H := hP
                      have hD : va_D A (mW m0 m1 m2 m3 m4 m5 cB cI n (L.1, L.2.1, L.2.2.1, 0) fd fc 1 (L.1 0) (cpE L.1 (L.1 0) eb (L.1 (64 * (L.1 0)))) (L.1 (64 * (L.1 0))) 0) := hD
                      refine lv_iload_n hx hb dX2_reopen_171 rfl (lv_at hl 1 rfl) ?_
                      exact rt_wi hx hb hr hlocks hP hD hS dX2_reopen_172 rfl
                    · skip
                      refine lv_aload_n hx hb dX2_reopen_139 rfl (lv_at hl 2 rfl) ?_
                      refine va_get (D := D) (ci := 3) (v := .ref m2) (C := RX2) (T := TX2) (N := 12) hx hb hts hinX2 hown hK hP 0 rfl rfl 6 (by decide) (hts (.fieldLink RX2 13 "PuzzleBookModel" "block" "[I") (by decide +kernel)) (fun _ h9 => h9) rfl dX2_reopen_140 ?_
                      refine lv_iload hx hb dX2_reopen_143 (lv_at hl 0 rfl) ?_
                      refine lv_aload_n hx hb dX2_reopen_145 rfl (lv_at hl 2 rfl) ?_
                      refine va_get (D := D) (ci := 3) (v := .ref m1) (C := RX2) (T := TX2) (N := 12) hx hb hts hinX2 hown hK hP 0 rfl rfl 1 (by decide) (hts (.fieldLink RX2 7 "PuzzleBookModel" "store" "[I") (by decide +kernel)) (fun _ h9 => h9) rfl dX2_reopen_146 ?_
                      refine lv_bipush (v := nI 64) hx hb dX2_reopen_149 (by decide +kernel) ?_
                      refine lv_iload_n hx hb dX2_reopen_151 rfl (lv_at hl 3 rfl) ?_
                      refine lv_imul hx hb dX2_reopen_152 ?_
                      refine lv_as (y := nI (64 * (L.1 0))) (pk_mul _ _) ?_
                      refine lv_iconst (v := nI 1) hx hb dX2_reopen_153 (by decide +kernel) ?_
                      refine lv_iadd hx hb dX2_reopen_154 ?_
                      refine lv_as (y := nI ((64 * (L.1 0)) + 1)) (nI_add _ _) ?_
                      refine lv_iload hx hb dX2_reopen_155 (lv_at hl 0 rfl) ?_
                      refine lv_iadd hx hb dX2_reopen_157 ?_
                      refine lv_as (y := nI (((64 * (L.1 0)) + 1) + i)) (nI_add _ _) ?_
                      refine lv_as (y := nI (64 * (L.1 0) + (1 + i))) (congrArg nI (by omega)) ?_
                      refine ld_i (f := L.1) (k := 64 * (L.1 0) + (1 + i)) hx hb hK hP 1 1 rfl rfl (by omega) (by decide) dX2_reopen_158 ?_
                      refine st_i (f := cpE L.1 (L.1 0) eb i) (k := i) (x := L.1 (64 * (L.1 0) + (1 + i))) hx hb hK hP hD hS 2 1 rfl rfl (by omega) (by decide) dX2_reopen_159 (fun H locs hP hD hS => ?_)
                      have hP : va_P D vwCl (mW m0 m1 m2 m3 m4 m5 cB cI n (L.1, L.2.1, L.2.2.1, 0) fd fc 0 (L.1 0) (va_up (cpE L.1 (L.1 0) eb i) i (L.1 (64 * (L.1 0) + (1 + i)))) (L.1 (64 * (L.1 0))) 0) H := hP
                      have hD : va_D A (mW m0 m1 m2 m3 m4 m5 cB cI n (L.1, L.2.1, L.2.2.1, 0) fd fc 0 (L.1 0) (va_up (cpE L.1 (L.1 0) eb i) i (L.1 (64 * (L.1 0) + (1 + i)))) (L.1 (64 * (L.1 0))) 0) := hD
                      refine lv_iinc (v := nI (i + 1)) (lv' := [(4, .int (nI (i + 1))), (2, .int (nI (L.1 (64 * (L.1 0))))), (0, .ref m0), (1, .int (nI (L.1 0)))]) hx hb dX2_reopen_160 hl (k := 0) rfl (nI_add _ 1) (by decide) rfl (fun ls hl => ?_)
                      refine lv_goto (tgt := 133) hx hb dX2_reopen_163 (by decide) ?_
                      exact ih2 (i + 1) (by omega) (by omega) H locs hP hD hS ls (lv_sub hl [0, 1, 2, 3] rfl)
                exact loop2 41 0 (by omega) (by omega) H locs hP hD hS ls (lv_sub hl [0, 2, 3, 4] rfl)
              · skip
                rw [rmF_e t9 q16 (by omega), ← hx9]
                refine lv_iconst (v := -1) hx hb dX2_reopen_116 (by decide +kernel) ?_
                refine lv_iload_n hx hb dX2_reopen_117 rfl (lv_at hl 1 rfl) ?_
                refine lv_isub hx hb dX2_reopen_118 ?_
                exact rt_wi hx hb hr hlocks hP hD hS dX2_reopen_119 rfl
            · skip
              have xk := x64 k (by omega)
              refine lv_aload_n hx hb dX2_reopen_69 rfl (lv_at hl 3 rfl) ?_
              refine va_get (D := D) (ci := 3) (v := .ref m1) (C := RX2) (T := TX2) (N := 12) hx hb hts hinX2 hown hK hP 0 rfl rfl 1 (by decide) (hts (.fieldLink RX2 7 "PuzzleBookModel" "store" "[I") (by decide +kernel)) (fun _ h9 => h9) rfl dX2_reopen_70 ?_
              refine lv_bipush (v := nI 64) hx hb dX2_reopen_73 (by decide +kernel) ?_
              refine lv_iload_n hx hb dX2_reopen_75 rfl (lv_at hl 4 rfl) ?_
              refine lv_imul hx hb dX2_reopen_76 ?_
              refine lv_as (y := nI (64 * (L.1 0))) (pk_mul _ _) ?_
              refine lv_iconst (v := nI 1) hx hb dX2_reopen_77 (by decide +kernel) ?_
              refine lv_iadd hx hb dX2_reopen_78 ?_
              refine lv_as (y := nI ((64 * (L.1 0)) + 1)) (nI_add _ _) ?_
              refine lv_iload hx hb dX2_reopen_79 (lv_at hl 0 rfl) ?_
              refine lv_iadd hx hb dX2_reopen_81 ?_
              refine lv_as (y := nI (((64 * (L.1 0)) + 1) + k)) (nI_add _ _) ?_
              refine lv_as (y := nI (64 * (L.1 0) + (1 + k))) (congrArg nI (by omega)) ?_
              refine ld_i (f := L.1) (k := 64 * (L.1 0) + (1 + k)) hx hb hK hP 1 1 rfl rfl (by omega) (by decide) dX2_reopen_82 ?_
              refine lv_istore (lv' := [(5, .int (nI (L.1 (64 * (L.1 0) + (1 + k))))), (4, .int (nI k)), (3, .int (nI x)), (2, .int (nI (L.1 (64 * (L.1 0))))), (0, .ref m0), (1, .int (nI (L.1 0)))]) hx hb dX2_reopen_83 hl (by decide) rfl (fun ls hl => ?_)
              refine lv_aload_n hx hb dX2_reopen_85 rfl (lv_at hl 4 rfl) ?_
              refine lv_iload hx hb dX2_reopen_86 (lv_at hl 0 rfl) ?_
              refine rd_V (As := [.int (nI (L.1 (64 * (L.1 0) + (1 + k))))]) (rest := []) ⟨hx, hb, hml, hown, hts⟩ (c_X2_entryIsRight l D m0 m1 m2 m3 m4 m5 cB cI n (L.1, L.2.1, L.2.2.1, 0) fd fc 0 tn eb ec 0 (L.1 (64 * (L.1 0) + (1 + k))) hg (by omega)) (cwV 1 hts gX2_reopen_X2_entryIsRight rfl rfl rfl (by decide +kernel) ⟨Nat.le_of_ble_eq_true rfl, Nat.le_of_ble_eq_true rfl⟩) hK hP [0, 1, 2, 3, 4, 5] rfl (ci := 3) rfl rfl (q0 := 0) rfl rfl hl.1 rfl (Nat.le_of_ble_eq_true rfl) dX2_reopen_88 ⟨Nat.zero_le _, Nat.zero_le _⟩ (fun r21 hr21 => ?_)
              subst hr21
              by_cases q22 : (¬ wrE (L.1, L.2.1, L.2.2.1, 0).1 (L.1 (64 * (L.1 0) + (1 + k))))
              · skip
                refine lv_as (y := nI 1) (congrArg nI (b01_t q22)) ?_
                refine j0_ne (tgt := 103) hx hb (nI_toInt (n := 1) (by decide)) dX2_reopen_91 (by decide) (fun c23 => ?_) (fun c23 => absurd c23 (by omega))
                refine lv_iinc (v := nI (k + 1)) (lv' := [(4, .int (nI (k + 1))), (5, .int (nI (L.1 (64 * (L.1 0) + (1 + k))))), (3, .int (nI x)), (2, .int (nI (L.1 (64 * (L.1 0))))), (0, .ref m0), (1, .int (nI (L.1 0)))]) hx hb dX2_reopen_103 hl (k := 1) rfl (nI_add _ 1) (by decide) rfl (fun ls hl => ?_)
                refine lv_goto (tgt := 63) hx hb dX2_reopen_106 (by decide) ?_
                exact ih (k + 1) x (by omega) (by omega) (by rw [lwN_f (P := wrE L.1) (E := (fun k => L.1 (64 * (L.1 0) + (1 + k)))) q22]; exact hx9) (by omega) H locs hP hD hS ls (lv_sub hl [0, 2, 3, 4, 5] rfl)
              · skip
                refine lv_as (y := nI 0) (congrArg nI (b01_f q22)) ?_
                refine j0_ne (tgt := 103) hx hb (nI_toInt (n := 0) (by decide)) dX2_reopen_91 (by decide) (fun c24 => absurd c24 (by omega)) (fun c24 => ?_)
                have qq : wrE L.1 ((fun k => L.1 (64 * (L.1 0) + (1 + k))) k) := Classical.byContradiction q22
                refine lv_iload hx hb dX2_reopen_94 (lv_at hl 0 rfl) ?_
                refine lv_iload_n hx hb dX2_reopen_96 rfl (lv_at hl 2 rfl) ?_
                refine jb_ge (tgt := 103) hx hb (nI_toInt (n := L.1 (64 * (L.1 0) + (1 + k))) (by omega)) (nI_toInt (n := x) (by omega)) dX2_reopen_97 (by decide) (fun c25 => ?_) (fun c25 => ?_)
                · skip
                  refine lv_iinc (v := nI (k + 1)) (lv' := [(4, .int (nI (k + 1))), (5, .int (nI (L.1 (64 * (L.1 0) + (1 + k))))), (3, .int (nI x)), (2, .int (nI (L.1 (64 * (L.1 0))))), (0, .ref m0), (1, .int (nI (L.1 0)))]) hx hb dX2_reopen_103 hl (k := 1) rfl (nI_add _ 1) (by decide) rfl (fun ls hl => ?_)
                  refine lv_goto (tgt := 63) hx hb dX2_reopen_106 (by decide) ?_
                  exact ih (k + 1) x (by omega) (by omega) (by rw [lwN_t (P := wrE L.1) (E := (fun k => L.1 (64 * (L.1 0) + (1 + k)))) qq, ← hx9]; exact (Nat.min_eq_left (by omega)).symm) (by omega) H locs hP hD hS ls (lv_sub hl [0, 2, 3, 4, 5] rfl)
                · skip
                  refine lv_iload hx hb dX2_reopen_100 (lv_at hl 0 rfl) ?_
                  refine lv_istore_n (lv' := [(3, .int (nI (L.1 (64 * (L.1 0) + (1 + k))))), (5, .int (nI (L.1 (64 * (L.1 0) + (1 + k))))), (4, .int (nI k)), (2, .int (nI (L.1 (64 * (L.1 0))))), (0, .ref m0), (1, .int (nI (L.1 0)))]) hx hb dX2_reopen_102 rfl hl (by decide) rfl (fun ls hl => ?_)
                  refine lv_iinc (v := nI (k + 1)) (lv' := [(4, .int (nI (k + 1))), (3, .int (nI (L.1 (64 * (L.1 0) + (1 + k))))), (5, .int (nI (L.1 (64 * (L.1 0) + (1 + k))))), (2, .int (nI (L.1 (64 * (L.1 0))))), (0, .ref m0), (1, .int (nI (L.1 0)))]) hx hb dX2_reopen_103 hl (k := 2) rfl (nI_add _ 1) (by decide) rfl (fun ls hl => ?_)
                  refine lv_goto (tgt := 63) hx hb dX2_reopen_106 (by decide) ?_
                  exact ih (k + 1) (L.1 (64 * (L.1 0) + (1 + k))) (by omega) (by omega) (by rw [lwN_t (P := wrE L.1) (E := (fun k => L.1 (64 * (L.1 0) + (1 + k)))) qq, ← hx9]; exact (Nat.min_eq_right (by omega)).symm) (by omega) H locs hP hD hS ls (lv_sub hl [0, 1, 3, 4, 5] rfl)
        exact loop 41 0 1000 (by omega) (by omega) rfl (by omega) H locs hP hD hS ls (lv_sub hl [0, 1, 2, 4, 3] rfl)
      · skip
        refine lv_as (y := nI 0) (congrArg nI (b01_f q16)) ?_
        refine j0_ne (tgt := 46) hx hb (nI_toInt (n := 0) (by decide)) dX2_reopen_39 (by decide) (fun c26 => absurd c26 (by omega)) (fun c26 => ?_)
        rw [rmF_r t9 q16]
        refine lv_iconst (v := -1) hx hb dX2_reopen_42 (by decide +kernel) ?_
        refine lv_iload_n hx hb dX2_reopen_43 rfl (lv_at hl 0 rfl) ?_
        refine lv_isub hx hb dX2_reopen_44 ?_
        exact rt_wi hx hb hr hlocks hP hD hS dX2_reopen_45 rfl
    · skip
      have t9 : ¬ t12 L.1 := by unfold t12; omega
      rw [rmF_n t9]
      refine lv_iconst (v := -1) hx hb dX2_reopen_32 (by decide +kernel) ?_
      exact rt_wi hx hb hr hlocks hP hD hS dX2_reopen_33 rfl
