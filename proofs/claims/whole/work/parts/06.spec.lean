/-! 06: what the book answers, in naturals -/
/-- the entries' blocks, 0 behind them (what is fed likewise) -/
def bO (f : Nat → Nat) (m k : Nat) : Nat := if k < m then f k else 0
theorem bO_t {f : Nat → Nat} {m k : Nat} (h : k < m) : bO f m k = f k := if_pos h
theorem bO_f {f : Nat → Nat} {m k : Nat} (h : ¬ k < m) : bO f m k = 0 := if_neg h
theorem bO_lt {f : Nat → Nat} {m N : Nat} (h0 : 0 < N) (h : ∀ k, k < m → f k < N) (k : Nat) : bO f m k < N := by
  unfold bO; split
  · exact h k ‹_›
  · exact h0
/-- an entry's name -/
def nmO (g : Nat → Nat) (b : Nat) : Nat := g (64 * b) + 256 * g (64 * b + 1)
theorem nm_or {x y : Nat} (hx : x < 256) (hy : y < 256) : nI x ||| (nI y <<< (nI 8 &&& 31)) = nI (x + 256 * y) := by
  have h1 : nI y <<< (nI 8 &&& 31) = nI (y * 2 ^ 8) := pk_shlN _ 8 (by decide +kernel) (by omega)
  rw [h1]
  apply Int32.toBitVec_inj.mp
  show BitVec.ofNat 32 x ||| BitVec.ofNat 32 (y * 2 ^ 8) = BitVec.ofNat 32 (x + 256 * y)
  rw [← BitVec.ofNat_or]
  congr 1
  have h2 := Nat.two_pow_add_eq_or_of_lt (i := 8) (b := x) hx y
  rw [Nat.or_comm, show y * 2 ^ 8 = 2 ^ 8 * y from Nat.mul_comm _ _, ← h2]
  omega
/-- byte i of an entry's row -/
def rwB (g : Nat → Nat) (b : Nat) (iz : Int) : Int32 := if 0 ≤ iz ∧ iz < ((min (g (64 * b + 2)) 48 : Nat) : Int) then nI (g (64 * b + (3 + iz.toNat))) else -1
/-- an entry has the row that is fed -/
def hF (g : Nat → Nat) (b : Nat) (fd : Nat → Nat) (fc : Nat) : Prop := g (64 * b + 2) = fc ∧ ∀ i, i < fc → g (64 * b + (3 + i)) = fd i
/-- the least place below m with P, else m -/
noncomputable def fN (P : Nat → Prop) (m : Nat) : Nat := @dite Nat (∃ k, k < m ∧ P k ∧ ∀ j, j < k → ¬ P j) (Classical.propDecidable _) (fun h => h.choose) (fun _ => m)
theorem fN_eq {P : Nat → Prop} {m k : Nat} (hk : k < m) (hp : P k) (hj : ∀ j, j < k → ¬ P j) : fN P m = k := by
  have h : ∃ k, k < m ∧ P k ∧ ∀ j, j < k → ¬ P j := ⟨k, hk, hp, hj⟩
  have e : fN P m = h.choose := by unfold fN; exact dif_pos h
  obtain ⟨a1, a2, a3⟩ := h.choose_spec
  rw [e]
  rcases Nat.lt_trichotomy h.choose k with q | q | q
  · exact absurd a2 (hj _ q)
  · exact q
  · exact absurd hp (a3 _ q)
theorem fN_no {P : Nat → Prop} {m : Nat} (h : ∀ k, k < m → ¬ P k) : fN P m = m := by
  unfold fN
  exact dif_neg (fun ⟨k, hk, hp, _⟩ => h k hk hp)
theorem fN_le (P : Nat → Prop) (m : Nat) : fN P m ≤ m := by
  by_cases h : ∃ k, k < m ∧ P k ∧ ∀ j, j < k → ¬ P j
  · obtain ⟨k, a, b, d⟩ := h
    rw [fN_eq a b d]; omega
  · unfold fN; rw [dif_neg h]; exact Nat.le_refl m
theorem fN_not {P : Nat → Prop} {m j : Nat} (h : j < fN P m) : ¬ P j := by
  by_cases h2 : ∃ k, k < m ∧ P k ∧ ∀ j, j < k → ¬ P j
  · obtain ⟨k, a, b, d⟩ := h2
    rw [fN_eq a b d] at h
    exact d j h
  · intro hp
    obtain ⟨k, hk, hl⟩ := pk_least P ⟨j, hp⟩
    have hjm : fN P m ≤ m := fN_le P m
    refine h2 ⟨k, ?_, hk, hl⟩
    rcases Nat.lt_or_ge k m with q | q
    · exact q
    · exact absurd hp (hl j (by omega))
theorem fN_is {P : Nat → Prop} {m : Nat} (h : fN P m < m) : P (fN P m) := by
  by_cases h2 : ∃ k, k < m ∧ P k ∧ ∀ j, j < k → ¬ P j
  · obtain ⟨k, a, b, d⟩ := h2
    rw [fN_eq a b d]; exact b
  · unfold fN at h; rw [dif_neg h2] at h; omega
theorem fN_congr {P Q : Nat → Prop} {m : Nat} (h : ∀ k, k < m → (P k ↔ Q k)) : fN P m = fN Q m := by
  by_cases h2 : ∃ k, k < m ∧ P k ∧ ∀ j, j < k → ¬ P j
  · obtain ⟨k, a, b, d⟩ := h2
    rw [fN_eq a b d]
    exact (fN_eq a ((h k a).mp b) (fun j hj q => d j hj ((h j (by omega)).mpr q))).symm
  · have h3 : ∀ k, k < m → ¬ P k := fun k hk hp => by
      obtain ⟨i, hi, hl⟩ := pk_least P ⟨k, hp⟩
      refine h2 ⟨i, ?_, hi, hl⟩
      rcases Nat.lt_or_ge i m with q | q
      · exact q
      · exact absurd hp (hl k (by omega))
    rw [fN_no h3, fN_no (fun k hk q => h3 k hk ((h k hk).mpr q))]
/-- a place, or -1 -/
noncomputable def fI (P : Nat → Prop) (m : Nat) : Int32 := if fN P m < m then nI (fN P m) else -1
theorem fI_t {P : Nat → Prop} {m k : Nat} (hk : k < m) (hp : P k) (hj : ∀ j, j < k → ¬ P j) : fI P m = nI k := by
  unfold fI; rw [fN_eq hk hp hj, if_pos hk]
theorem fI_f {P : Nat → Prop} {m : Nat} (h : ∀ k, k < m → ¬ P k) : fI P m = -1 := by
  unfold fI; rw [fN_no h, if_neg (Nat.lt_irrefl m)]
/-- an entry has the block -/
def tk (E : Nat → Nat) (ec b : Nat) : Prop := ∃ k, k < ec ∧ E k = b
/-- the least free block, n if there is none -/
noncomputable def lfB (E : Nat → Nat) (ec n : Nat) : Nat := 3 + fN (fun j => ¬ tk E ec (3 + j)) (n - 3)
/-- the least of the first k entries' blocks with P, 1000 if there is none -/
noncomputable def lwN (P : Nat → Prop) (E : Nat → Nat) : Nat → Nat
  | 0 => 1000
  | k + 1 => @ite Nat (P (E k)) (Classical.propDecidable _) (min (lwN P E k) (E k)) (lwN P E k)
theorem lwN_t {P : Nat → Prop} {E : Nat → Nat} {k : Nat} (h : P (E k)) : lwN P E (k + 1) = min (lwN P E k) (E k) := if_pos h
theorem lwN_f {P : Nat → Prop} {E : Nat → Nat} {k : Nat} (h : ¬ P (E k)) : lwN P E (k + 1) = lwN P E k := if_neg h
def lwI (x : Nat) : Int32 := if x = 1000 then -1 else nI x
theorem lwN_or {P : Nat → Prop} {E : Nat → Nat} (h : ∀ k, E k < 64) : ∀ k, lwN P E k = 1000 ∨ lwN P E k < 64
  | 0 => Or.inl rfl
  | k + 1 => by
    by_cases q : P (E k)
    · rw [lwN_t q]; have := h k; omega
    · rw [lwN_f q]; exact lwN_or h k
/-- byte i of the row of the last of the first k entries that has the name -/
def fdF (g E : Nat → Nat) (nz iz : Int) : Nat → Int32
  | 0 => -1
  | k + 1 => if ((nmO g (E k) : Nat) : Int) = nz then rwB g (E k) iz else fdF g E nz iz k
def q_find (g E : Nat → Nat) (op ec : Nat) (nz iz : Int) : Int32 := if op = 0 then -1 else fdF g E nz iz ec
def q_entry (g E : Nat → Nat) (op ec : Nat) (kz wz : Int) : Int32 := if op ≠ 0 ∧ 0 ≤ kz ∧ kz < (ec : Int) then (if wz = 0 then nI (nmO g (E kz.toNat)) else if wz = 1 then nI (E kz.toNat) else if wz = 2 then nI (g (64 * E kz.toNat + 2)) else -1) else -1
def q_free (op n ec : Nat) : Int32 := if op = 0 then -1 else nI n - nI 3 - nI ec
def q_root (op tn : Nat) : Int32 := if op = 0 then -1 else nI tn
noncomputable def q_bad (g E : Nat → Nat) (op tn ec : Nat) : Int32 := if op = 0 then -1 else @ite Int32 (okS g (64 * tn)) (Classical.propDecidable _) (lwI (lwN (fun b => ¬ okS g (64 * b)) E ec)) (nI tn)
/-- an entry's block is wrong -/
def wrE (g : Nat → Nat) (b : Nat) : Prop := ¬ okS g (64 * b) ∨ g (64 * b + 2) = 0 ∨ 48 < g (64 * b + 2)
theorem m1_toInt {m : Nat} (h : m < 2 ^ 30) : (nI m - nI 1).toInt = (m : Int) - 1 := pk_sub_toInt h (by decide)
theorem neg1_toInt : (-1 : Int32).toInt = -1 := by decide +kernel
theorem m1_dec {t : Nat} (h : 0 < t) : nI t - nI 1 + Int32.ofInt (-1) = nI (t - 1) - nI 1 := by
  have e : -nI 1 = Int32.ofInt (-1) := by decide +kernel
  rw [pk_sub h, Int32.sub_eq_add_neg (nI (t - 1)) (nI 1), e]
