/-! 04: the sum, the log, in naturals -/
def mixS (s : Int32) (x : Nat) : Int32 := (((s ^^^ nI x) <<< (nI 17 &&& 31)) ||| (((s ^^^ nI x).toUInt32 >>> ((nI 15).toUInt32 &&& Int32.toUInt32 31)).toInt32)) * (-2048144789)
/-- the sum over the first k bytes from the place p on -/
def smS (g : Nat → Nat) (p : Nat) : Nat → Int32
  | 0 => 1
  | k + 1 => mixS (smS g p k) (g (p + k))
/-- byte k of a sum -/
def sby (s : Int32) (k : Nat) : Nat := s.toBitVec.toNat / 2 ^ (8 * k) % 256
theorem sby_lt (s : Int32) (k : Nat) : sby s k < 256 := Nat.mod_lt _ (by decide)
/-- the block at the place p has its sum -/
def okS (g : Nat → Nat) (p : Nat) : Prop := ∀ k, k < 4 → g (p + 60 + k) = sby (smS g p 60) k
/-- one byte written -/
def w1 (L : Lg) (pl x : Nat) : Lg := (va_up L.1 pl x, va_up L.2.1 L.2.2.2 pl, va_up L.2.2.1 L.2.2.2 (L.1 pl), L.2.2.2 + 1)
/-- k bytes written from a place on -/
def wN (L : Lg) (base : Nat) (v : Nat → Nat) : Nat → Lg
  | 0 => L
  | k + 1 => w1 (wN L base v k) (base + k) (v k)
def wS (L : Lg) (p : Nat) : Lg := wN L (p + 60) (sby (smS L.1 p 60)) 4
/-- a new change begins -/
def w0 (L : Lg) : Lg := (L.1, L.2.1, L.2.2.1, 0)
theorem wN_c (L : Lg) (base : Nat) (v : Nat → Nat) : ∀ k, (wN L base v k).2.2.2 = L.2.2.2 + k
  | 0 => rfl
  | k + 1 => by show (wN L base v k).2.2.2 + 1 = _; rw [wN_c L base v k]; omega
theorem wN_lt {L : Lg} {base : Nat} {v : Nat → Nat} (hg : ∀ j, L.1 j < 256) (hv : ∀ j, v j < 256) : ∀ k, ∀ j, (wN L base v k).1 j < 256
  | 0 => hg
  | k + 1 => fun j => by
    show va_up _ _ _ j < 256
    unfold va_up; split
    · exact hv k
    · exact wN_lt hg hv k j
/-- a byte of a sum, as it is told and as it is written -/
theorem sby_and (s : Int32) (k : Nat) (hk : k < 4) : (s.toUInt32 >>> ((nI (8 * k)).toUInt32 &&& Int32.toUInt32 31)).toInt32 &&& nI 255 = nI (sby s k) := by
  have h1 : (((nI (8 * k)).toUInt32 &&& Int32.toUInt32 31).toBitVec % 32).toNat = 8 * k := by
    rcases (show k = 0 ∨ k = 1 ∨ k = 2 ∨ k = 3 by omega) with rfl | rfl | rfl | rfl <;> decide +kernel
  rw [pk_and _ (m := nI 255) 8 (by decide +kernel), pk_ushr _ _ _ h1]
  rfl
theorem and_b (x : Int32) : x.toInt8.toInt32 = (x &&& nI 255).toInt8.toInt32 := by
  have h := Int32.toInt8_and x (nI 255)
  rw [h]
  have h2 : (nI 255).toInt8 = -1 := by decide +kernel
  rw [h2]
  simp
theorem sby_b (s : Int32) (k : Nat) (hk : k < 4) : (s.toUInt32 >>> ((nI (8 * k)).toUInt32 &&& Int32.toUInt32 31)).toInt32.toInt8.toInt32 = bb (sby s k) := by
  rw [and_b, sby_and s k hk]
  rfl
theorem nI_b {x : Nat} : (nI x).toInt8.toInt32 = bb (x % 256) := by
  rw [and_b, show nI x &&& nI 255 = nI (x % 256) from by
    have h := pk_and (nI x) (m := nI 255) 8 (by decide +kernel)
    rw [h]
    congr 1
    show (Int32.ofNat x).toBitVec.toNat % 256 = x % 256
    have : (Int32.ofNat x).toBitVec.toNat = x % 2 ^ 32 := by rfl
    rw [this]
    omega]
  rfl
