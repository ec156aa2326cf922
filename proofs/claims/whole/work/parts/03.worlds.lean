/-! 03: the worlds of the class and of the reference, in naturals -/
def aI (f : Nat → Nat) : Nat → Int32 := fun j => nI (f j)
def aB (f : Nat → Nat) : Nat → Int32 := fun j => bb (f j)
theorem upd_aI {f : Nat → Nat} {k x : Nat} : upd (aI f) k (nI x) = aI (va_up f k x) := by
  funext j; unfold upd aI va_up; split <;> rfl
theorem upd_aB {f : Nat → Nat} {k x : Nat} : upd (aB f) k (bb x) = aB (va_up f k x) := by
  funext j; unfold upd aB va_up; split <;> rfl
/-- a change's log: the bytes, the places written, what was there, how many -/
abbrev Lg : Type := (Nat → Nat) × (Nat → Nat) × (Nat → Nat) × Nat
/-- PuzzleBook$Store: n blocks, the bytes g, the latest change's places, former bytes and count -/
abbrev sW (h hb hc hf : Nat) (cB cI : ClassId) (n : Nat) (L : Lg) : va_W := [(h, .inr (1, [.int (nI n), .ref hb, .ref hc, .ref hf, .int (nI L.2.2.2)])), (hb, .inl (cB, 64 * n, .inl (aB L.1))), (hc, .inl (cI, 129, .inl (aI L.2.1))), (hf, .inl (cB, 129, .inl (aB L.2.2.1)))]
/-- PuzzleBook: its Store; what is fed; open or not; the turn; the entries' blocks -/
abbrev bW (h0 h1 h2 h hb hc hf : Nat) (cB cI : ClassId) (n : Nat) (L : Lg) (fd : Nat → Nat) (fc op tn : Nat) (eb : Nat → Nat) (ec : Nat) : va_W := [(h0, .inr (2, [.ref h, .ref h1, .int (nI fc), .int (nI op), .int (nI tn), .ref h2, .int (nI ec)])), (h1, .inl (cI, 48, .inl (aI fd))), (h2, .inl (cI, 40, .inl (aI eb))), (h, .inr (1, [.int (nI n), .ref hb, .ref hc, .ref hf, .int (nI L.2.2.2)])), (hb, .inl (cB, 64 * n, .inl (aB L.1))), (hc, .inl (cI, 129, .inl (aI L.2.1))), (hf, .inl (cB, 129, .inl (aB L.2.2.1)))]
/-- PuzzleBookModel -/
abbrev mW (m0 m1 m2 m3 m4 m5 : Nat) (_cB cI : ClassId) (n : Nat) (L : Lg) (fd : Nat → Nat) (fc op tn : Nat) (eb : Nat → Nat) (ec th : Nat) : va_W := [(m0, .inr (3, [.int (nI n), .ref m1, .int (nI op), .int (nI tn), .int (nI ec), .int (nI th), .ref m2, .ref m3, .int (nI fc), .ref m4, .ref m5, .int (nI L.2.2.2)])), (m1, .inl (cI, 4096, .inl (aI L.1))), (m2, .inl (cI, 40, .inl (aI eb))), (m3, .inl (cI, 48, .inl (aI fd))), (m4, .inl (cI, 129, .inl (aI L.2.1))), (m5, .inl (cI, 129, .inl (aI L.2.2.1)))]
section MA
variable {p : Program} {l : Launch} {e : Env} {R : Room} {s : State} {m : MethodId} {args : Array Value} {below : List Frame} {meth : Method} {c : Code} {H H0 : Heap} {locs : List Loc} {cells slots : Nat} {Q : State → Prop}
variable {cc : ByteArray} {pc : Nat} {ls : Array Slot} {rest : List Value} {D : va_G} {tys : List (ClassId × FieldType)} {ws : va_W} {A : Nat → Prop} {a : Nat} {cA : ClassId} {n : Nat} {f : Nat → Nat} {k x : Nat}
theorem ld_i (hexec : p.tables.exec = Jvm.exec) (hb : c.code = cc) (hK : va_K D vwCl tys s) (hP : va_P D vwCl ws H) (q0 t0 : Nat) (ha : ws[q0]? = some (a, .inl (cA, n, .inl (aI f)))) (ht : tys[t0]? = some (cA, .int)) (hk : k < n) (hn : n < 2 ^ 31) (hdg : decode cc pc = .ok (.iaload, 1))
    (kk : W p l e R s m args below meth c H locs cells slots Q (F0 m (pc + 1) ls (.int (nI (f k)) :: rest))) : W p l e R s m args below meth c H locs cells slots Q (F0 m pc ls (.int (nI k) :: .ref a :: rest)) := by
  refine va_iald hexec hb hK hP q0 t0 ha ht (vp_in_nI hk hn) hdg ?_
  rw [nI_clamp (by omega)]
  exact kk
theorem ld_b (hexec : p.tables.exec = Jvm.exec) (hb : c.code = cc) (hK : va_K D vwCl tys s) (hP : va_P D vwCl ws H) (q0 t0 : Nat) (ha : ws[q0]? = some (a, .inl (cA, n, .inl (aB f)))) (ht : tys[t0]? = some (cA, .byte)) (hk : k < n) (hn : n < 2 ^ 31) (hdg : decode cc pc = .ok (.baload, 1))
    (kk : W p l e R s m args below meth c H locs cells slots Q (F0 m (pc + 1) ls (.int (bb (f k)) :: rest))) : W p l e R s m args below meth c H locs cells slots Q (F0 m pc ls (.int (nI k) :: .ref a :: rest)) := by
  refine va_bald hexec hb hK hP q0 t0 ha ht (vp_in_nI hk hn) hdg ?_
  rw [nI_clamp (by omega)]
  exact kk
theorem st_i (hexec : p.tables.exec = Jvm.exec) (hb : c.code = cc) (hK : va_K D vwCl tys s) (hP : va_P D vwCl ws H) (hD : va_D A ws) (hS : va_S A H0 H locs) (q0 t0 : Nat) (ha : ws[q0]? = some (a, .inl (cA, n, .inl (aI f)))) (ht : tys[t0]? = some (cA, .int)) (hk : k < n) (hn : n < 2 ^ 31) (hdg : decode cc pc = .ok (.iastore, 1))
    (kk : ∀ (H1 : Heap) (locs1 : List Loc), va_P D vwCl (ws.set q0 (a, .inl (cA, n, .inl (aI (va_up f k x))))) H1 → va_D A (ws.set q0 (a, .inl (cA, n, .inl (aI (va_up f k x))))) → va_S A H0 H1 locs1 → W p l e R s m args below meth c H1 locs1 cells slots Q (F0 m (pc + 1) ls rest)) : W p l e R s m args below meth c H locs cells slots Q (F0 m pc ls (.int (nI x) :: .int (nI k) :: .ref a :: rest)) := by
  refine va_iast hexec hb hK hP hD hS q0 t0 ha ht (vp_in_nI hk hn) hdg (fun H1 locs1 => ?_)
  rw [nI_clamp (by omega), upd_aI]
  exact kk H1 locs1
theorem st_b {v : Int32} (hexec : p.tables.exec = Jvm.exec) (hb : c.code = cc) (hK : va_K D vwCl tys s) (hP : va_P D vwCl ws H) (hD : va_D A ws) (hS : va_S A H0 H locs) (q0 t0 : Nat) (ha : ws[q0]? = some (a, .inl (cA, n, .inl (aB f)))) (ht : tys[t0]? = some (cA, .byte)) (hk : k < n) (hn : n < 2 ^ 31) (hv : vp_nar .byte v = bb x) (hdg : decode cc pc = .ok (.bastore, 1))
    (kk : ∀ (H1 : Heap) (locs1 : List Loc), va_P D vwCl (ws.set q0 (a, .inl (cA, n, .inl (aB (va_up f k x))))) H1 → va_D A (ws.set q0 (a, .inl (cA, n, .inl (aB (va_up f k x))))) → va_S A H0 H1 locs1 → W p l e R s m args below meth c H1 locs1 cells slots Q (F0 m (pc + 1) ls rest)) : W p l e R s m args below meth c H locs cells slots Q (F0 m pc ls (.int v :: .int (nI k) :: .ref a :: rest)) := by
  refine va_bast hexec hb hK hP hD hS q0 t0 ha ht (vp_in_nI hk hn) hdg (fun H1 locs1 => ?_)
  rw [nI_clamp (by omega), hv, upd_aB]
  exact kk H1 locs1
theorem al_i {a0 : (Nat → Int32) ⊕ (Nat → Int64) ⊕ (Nat → UInt32) ⊕ (Nat → UInt64) ⊕ (Nat → Option Nat)} {ty : FieldType} (hexec : p.tables.exec = Jvm.exec) (hb : c.code = cc) (hK : va_K D vwCl tys s) (hP : va_P D vwCl ws H) (q0 t0 : Nat) (ha : ws[q0]? = some (a, .inl (cA, n, a0))) (ht : tys[t0]? = some (cA, ty)) (hdg : decode cc pc = .ok (.arraylength, 1))
    (kk : W p l e R s m args below meth c H locs cells slots Q (F0 m (pc + 1) ls (.int (nI n) :: rest))) : W p l e R s m args below meth c H locs cells slots Q (F0 m pc ls (.ref a :: rest)) := by
  exact va_alen hexec hb hK hP q0 t0 ha ht rfl hdg kk
end MA
