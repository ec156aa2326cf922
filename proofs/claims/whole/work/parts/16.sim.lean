/-! 16: the class and the reference, side by side: what holds of both between two calls, and that each call keeps it and answers alike -/
def Jo (n : Nat) (L : Lg) (tn : Nat) (eb : Nat → Nat) (ec : Nat) (L' : Lg) (tn' : Nat) (eb' : Nat → Nat) (ec' : Nat) : Prop :=
  (tn = 1 ∨ tn = 2) ∧ tn' = tn ∧ ec' = ec ∧ bO eb' ec = bO eb ec ∧ L'.2.2.2 = L.2.2.2 ∧ (∀ k, k < L.2.2.2 → L.2.1 k < 64 * n) ∧ (∀ i j, i < j → j < L.2.2.2 → L.2.1 i ≠ L.2.1 j) ∧ (∀ k, k < ec → 3 ≤ bO eb ec k)
def two (L : Lg) : Prop := (∀ j, L.1 j < 256) ∧ ∀ j, L.2.2.1 j < 256
def Jn (n : Nat) (L : Lg) (fd : Nat → Nat) (fc op tn : Nat) (eb : Nat → Nat) (ec : Nat) (L' : Lg) (tn' : Nat) (eb' : Nat → Nat) (ec' : Nat) : Prop :=
  (4 ≤ n ∧ n ≤ 64) ∧ two L ∧ fc ≤ 48 ∧ (∀ i, fd i < 256) ∧ op ≤ 1 ∧ (ec ≤ 40 ∧ ec' ≤ 40) ∧ ((∀ k, bO eb ec k < n) ∧ ∀ k, bO eb' ec' k < n) ∧ (L'.1 = L.1 ∧ L'.2.1 = L.2.1 ∧ L'.2.2.1 = L.2.2.1) ∧ (L.2.2.2 ≤ 129 ∧ L'.2.2.2 ≤ 129) ∧ (op ≠ 0 → Jo n L tn eb ec L' tn' eb' ec')
theorem J_L {L L' : Lg} (h : L'.1 = L.1 ∧ L'.2.1 = L.2.1 ∧ L'.2.2.1 = L.2.2.1) (h2 : L'.2.2.2 = L.2.2.2) : L' = L := by
  obtain ⟨a, b, c, d⟩ := L
  obtain ⟨a', b', c', d'⟩ := L'
  obtain ⟨rfl, rfl, rfl⟩ := h
  cases h2
  rfl
theorem vu_lt {f : Nat → Nat} {k x N : Nat} (hf : ∀ j, f j < N) (hx : x < N) : ∀ j, va_up f k x j < N := fun j => by
  unfold va_up; split
  · exact hx
  · exact hf j
/-! the log -/
theorem w1_two {L : Lg} {pl x : Nat} (h : two L) (hx : x < 256) : two (w1 L pl x) := ⟨vu_lt h.1 hx, vu_lt h.2 (h.1 _)⟩
theorem wN_two {L : Lg} {base : Nat} {v : Nat → Nat} (h : two L) (hv : ∀ j, v j < 256) : ∀ k, two (wN L base v k)
  | 0 => h
  | k + 1 => w1_two (wN_two h hv k) (hv k)
theorem wS_two {L : Lg} {p : Nat} (h : two L) : two (wS L p) := wN_two h (sby_lt _) 4
theorem wR_two {L : Lg} {b ec : Nat} {v : Nat → Nat} (h : two L) (he : ec ≤ 40) (hv : ∀ j, v j < 256) : two (wR L b ec v) := wS_two (wN_two (w1_two h (by omega)) hv 59)
theorem wE_two {L : Lg} {b nm fc : Nat} {fd : Nat → Nat} (h : two L) (hn : nm < 65536) (hf : fc ≤ 48) (hd : ∀ i, fd i < 256) : two (wE L b nm fc fd) :=
  wS_two (wN_two (w1_two (w1_two (w1_two h (Nat.mod_lt _ (by decide))) (by omega)) (by omega)) (bO_lt (by decide) (fun k _ => hd k)) 57)
def seqP (L M : Lg) (base m : Nat) : Prop := M.2.2.2 = L.2.2.2 + m ∧ (∀ j, j < L.2.2.2 → M.2.1 j = L.2.1 j) ∧ ∀ i, i < m → M.2.1 (L.2.2.2 + i) = base + i
theorem seqP_1 (L : Lg) (pl x : Nat) : seqP L (w1 L pl x) pl 1 := by
  refine ⟨rfl, fun j hj => ?_, fun i hi => ?_⟩
  · show va_up _ _ _ j = _
    rw [va_up_ne _ _ (by omega)]
  · show va_up _ _ _ _ = _
    rw [show L.2.2.2 + i = L.2.2.2 by omega, va_up_self]; omega
theorem seqP_t {L M N : Lg} {b m k : Nat} (h1 : seqP L M b m) (h2 : seqP M N (b + m) k) : seqP L N b (m + k) := by
  obtain ⟨a1, a2, a3⟩ := h1
  obtain ⟨b1, b2, b3⟩ := h2
  refine ⟨by omega, fun j hj => ?_, fun i hi => ?_⟩
  · rw [b2 j (by omega), a2 j hj]
  · by_cases q : i < m
    · rw [b2 _ (by omega), a3 i q]
    · have h := b3 (i - m) (by omega)
      rw [a1, show L.2.2.2 + m + (i - m) = L.2.2.2 + i by omega] at h
      rw [h]; omega
theorem seqP_N (L : Lg) (base : Nat) (v : Nat → Nat) : ∀ k, seqP L (wN L base v k) base k
  | 0 => ⟨rfl, fun _ _ => rfl, fun i hi => absurd hi (Nat.not_lt_zero i)⟩
  | k + 1 => seqP_t (seqP_N L base v k) (seqP_1 _ _ _)
theorem seqP_R (L : Lg) (b ec : Nat) (v : Nat → Nat) : seqP L (wR L b ec v) (64 * b) 64 :=
  seqP_t (m := 60) (k := 4) (seqP_t (m := 1) (k := 59) (seqP_1 L (64 * b + 0) ec) (seqP_N _ _ _ 59)) (seqP_N _ _ _ 4)
theorem seqP_E (L : Lg) (b nm fc : Nat) (fd : Nat → Nat) : seqP L (wE L b nm fc fd) (64 * b) 64 :=
  seqP_t (m := 60) (k := 4) (seqP_t (m := 3) (k := 57) (seqP_t (m := 2) (k := 1) (seqP_t (m := 1) (k := 1) (seqP_1 L (64 * b + 0) _) (seqP_1 _ (64 * b + 1) _)) (seqP_1 _ (64 * b + 2) _)) (seqP_N _ _ _ 57)) (seqP_N _ _ _ 4)
/-! the entries -/
theorem bO_k {f g : Nat → Nat} {m k : Nat} (h : bO f m = bO g m) (hk : k < m) : f k = g k := by
  have := congrFun h k
  rwa [bO_t hk, bO_t hk] at this
theorem bO_ex {f g : Nat → Nat} {m : Nat} (h : ∀ k, k < m → f k = g k) : bO f m = bO g m := by
  funext k
  by_cases q : k < m
  · rw [bO_t q, bO_t q, h k q]
  · rw [bO_f q, bO_f q]
theorem bO_up {f g : Nat → Nat} {m b : Nat} (h : bO f m = bO g m) : bO (va_up f m b) (m + 1) = bO (va_up g m b) (m + 1) := by
  refine bO_ex (fun k hk => ?_)
  by_cases q : k = m
  · rw [q, va_up_self, va_up_self]
  · rw [va_up_ne _ _ q, va_up_ne _ _ q]; exact bO_k h (by omega)
theorem bO_shf {f g : Nat → Nat} {m z : Nat} (h : bO f m = bO g m) (hz : z < m) : bO (shf f z (m - 1 - z)) (m - 1) = bO (shf g z (m - 1 - z)) (m - 1) := by
  refine bO_ex (fun k hk => ?_)
  rw [shf_at, shf_at]
  by_cases q : z ≤ k ∧ k < z + (m - 1 - z)
  · rw [if_pos q, if_pos q]; exact bO_k h (by omega)
  · rw [if_neg q, if_neg q]; exact bO_k h (by omega)
/-! undoing: which end comes first doesn't matter, the places are apart -/
theorem unA_s {L : Lg} {kp : Nat} (hd : ∀ i j, i < j → j < L.2.2.2 → L.2.1 i ≠ L.2.1 j) : ∀ j, kp + j ≤ L.2.2.2 → (∀ i, i < j → unA L kp j (L.2.1 (kp + i)) = L.2.2.1 (kp + i)) ∧ ∀ p, (∀ i, i < j → L.2.1 (kp + i) ≠ p) → unA L kp j p = L.1 p
  | 0, _ => ⟨fun i hi => absurd hi (Nat.not_lt_zero i), fun _ _ => rfl⟩
  | j + 1, h => by
    obtain ⟨a, b⟩ := unA_s (kp := kp) hd j (by omega)
    refine ⟨fun i hi => ?_, fun p hp => ?_⟩
    · show va_up _ _ _ _ = _
      by_cases q : i = j
      · rw [q, va_up_self]
      · rw [va_up_ne _ _ (hd (kp + i) (kp + j) (by omega) (by omega)), a i (by omega)]
    · show va_up _ _ _ _ = _
      rw [va_up_ne _ _ (Ne.symm (hp j (by omega))), b p (fun i hi => hp i (by omega))]
theorem unD_sp {L : Lg} (hd : ∀ i j, i < j → j < L.2.2.2 → L.2.1 i ≠ L.2.1 j) : ∀ j, j ≤ L.2.2.2 → (∀ i, i < j → unD L j (L.2.1 (L.2.2.2 - 1 - i)) = L.2.2.1 (L.2.2.2 - 1 - i)) ∧ ∀ p, (∀ i, i < j → L.2.1 (L.2.2.2 - 1 - i) ≠ p) → unD L j p = L.1 p
  | 0, _ => ⟨fun i hi => absurd hi (Nat.not_lt_zero i), fun _ _ => rfl⟩
  | j + 1, h => by
    obtain ⟨a, b⟩ := unD_sp hd j (by omega)
    refine ⟨fun i hi => ?_, fun p hp => ?_⟩
    · show va_up _ _ _ _ = _
      by_cases q : i = j
      · rw [q, va_up_self]
      · rw [va_up_ne _ _ (Ne.symm (hd (L.2.2.2 - 1 - j) (L.2.2.2 - 1 - i) (by omega) (by omega))), a i (by omega)]
    · show va_up _ _ _ _ = _
      rw [va_up_ne _ _ (Ne.symm (hp j (by omega))), b p (fun i hi => hp i (by omega))]
theorem un_eq {L : Lg} {kp : Nat} (hd : ∀ i j, i < j → j < L.2.2.2 → L.2.1 i ≠ L.2.1 j) (hk : kp ≤ L.2.2.2) : unA L kp (L.2.2.2 - kp) = unD L (L.2.2.2 - kp) := by
  obtain ⟨a1, a2⟩ := unA_s (kp := kp) hd (L.2.2.2 - kp) (by omega)
  obtain ⟨b1, b2⟩ := unD_sp hd (L.2.2.2 - kp) (by omega)
  funext p
  by_cases q : ∃ k, kp ≤ k ∧ k < L.2.2.2 ∧ L.2.1 k = p
  · obtain ⟨k, h1, h2, rfl⟩ := q
    have e1 := a1 (k - kp) (by omega)
    have e2 := b1 (L.2.2.2 - 1 - k) (by omega)
    rw [show kp + (k - kp) = k by omega] at e1
    rw [show L.2.2.2 - 1 - (L.2.2.2 - 1 - k) = k by omega] at e2
    rw [e1, e2]
  · rw [a2 p (fun i hi z => q ⟨kp + i, by omega, by omega, z⟩), b2 p (fun i hi z => q ⟨L.2.2.2 - 1 - i, by omega, by omega, z⟩)]
theorem unA_lt {L : Lg} {kp : Nat} (h : two L) : ∀ j i, unA L kp j i < 256
  | 0 => h.1
  | j + 1 => vu_lt (unA_lt h j) (h.2 _)
/-! the least block of some kind -/
theorem lwN_sp {P : Nat → Prop} {E : Nat → Nat} (h : ∀ k, E k < 64) : ∀ k, (lwN P E k = 1000 ∧ ∀ i, i < k → ¬ P (E i)) ∨ ∃ i, i < k ∧ P (E i) ∧ lwN P E k = E i ∧ ∀ j, j < k → P (E j) → E i ≤ E j
  | 0 => Or.inl ⟨rfl, fun i hi => absurd hi (Nat.not_lt_zero i)⟩
  | k + 1 => by
    have hk := h k
    by_cases q : P (E k)
    · rw [lwN_t q]
      rcases lwN_sp h k with ⟨a, b⟩ | ⟨i, a, b, c, d⟩
      · refine Or.inr ⟨k, by omega, q, by rw [a]; omega, fun j hj hp => ?_⟩
        by_cases z : j = k
        · rw [z]; exact Nat.le_refl _
        · exact absurd hp (b j (by omega))
      · by_cases z : E i ≤ E k
        · refine Or.inr ⟨i, by omega, b, by rw [c]; omega, fun j hj hp => ?_⟩
          by_cases y : j = k
          · rw [y]; exact z
          · exact d j (by omega) hp
        · refine Or.inr ⟨k, by omega, q, by rw [c]; omega, fun j hj hp => ?_⟩
          by_cases y : j = k
          · rw [y]; exact Nat.le_refl _
          · have := d j (by omega) hp; omega
    · rw [lwN_f q]
      rcases lwN_sp h k with ⟨a, b⟩ | ⟨i, a, b, c, d⟩
      · refine Or.inl ⟨a, fun j hj => ?_⟩
        by_cases z : j = k
        · rw [z]; exact q
        · exact b j (by omega)
      · refine Or.inr ⟨i, by omega, b, c, fun j hj hp => ?_⟩
        by_cases y : j = k
        · rw [y] at hp; exact absurd hp q
        · exact d j (by omega) hp
theorem lwN_congr {P : Nat → Prop} {E F : Nat → Nat} : ∀ {k : Nat}, (∀ j, j < k → E j = F j) → lwN P E k = lwN P F k
  | 0, _ => rfl
  | k + 1, h => by
    have e := h k (by omega)
    have ih := lwN_congr (P := P) (E := E) (F := F) (k := k) (fun j hj => h j (by omega))
    by_cases q : P (E k)
    · rw [lwN_t q, lwN_t (by rw [← e]; exact q), ih, e]
    · rw [lwN_f q, lwN_f (by rw [← e]; exact q), ih]
theorem bad_eq {g E : Nat → Nat} {op tn ec n : Nat} (hE : ∀ k, E k < n) (h3 : ∀ k, k < ec → 3 ≤ E k) (hn : n ≤ 64) : q_bad g E op tn ec = qm_bad g E op tn ec n := by
  unfold q_bad qm_bad
  by_cases q : op = 0
  · rw [if_pos q, if_pos q]
  rw [if_neg q, if_neg q]
  by_cases r : okS g (64 * tn)
  · rw [if_pos r, if_pos r]
    have h64 : ∀ k, E k < 64 := fun k => Nat.lt_of_lt_of_le (hE k) hn
    rcases lwN_sp (P := fun b => ¬ okS g (64 * b)) h64 ec with ⟨a, b⟩ | ⟨i, a, b, c, d⟩
    · have e : fN (fun j => tk E ec (3 + j) ∧ ¬ okS g (64 * (3 + j))) (n - 3) = n - 3 := fN_no (fun k _ ⟨⟨j, hj, hq⟩, hp⟩ => b j hj (by show ¬ okS g (64 * E j); rw [hq]; exact hp))
      rw [a, e, if_neg (Nat.lt_irrefl _)]; rfl
    · have g3 := h3 i a
      have gn := hE i
      have e : fN (fun j => tk E ec (3 + j) ∧ ¬ okS g (64 * (3 + j))) (n - 3) = E i - 3 := by
        refine fN_eq (by omega) ⟨⟨i, a, by omega⟩, by rw [show 3 + (E i - 3) = E i by omega]; exact b⟩ ?_
        intro j hj ⟨⟨k, hk, hq⟩, hp⟩
        have := d k hk (by show ¬ okS g (64 * E k); rw [hq]; exact hp)
        omega
      rw [c, e, if_pos (by omega)]
      unfold lwI
      rw [if_neg (by have := h64 i; omega), show 3 + (E i - 3) = E i by omega]
  · rw [if_neg r, if_neg r]
