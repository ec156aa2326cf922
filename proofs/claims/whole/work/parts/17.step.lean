/-! 17: each call keeps what holds of both, and both answer alike -/
section JS
variable {n : Nat} {L : Lg} {fd : Nat → Nat} {fc op tn : Nat} {eb : Nat → Nat} {ec : Nat} {L' : Lg} {tn' : Nat} {eb' : Nat → Nat} {ec' : Nat}
theorem J_init (z : Int) : Jn (clN z) L1 (fun _ => 0) 0 1 1 (fun _ => 0) 0 L1 1 (fun _ => 0) 0 := by
  have hc := clN_in z
  have h0 : two L0 := ⟨fun _ => by show 0 < 256; decide, fun _ => by show 0 < 256; decide⟩
  have hv : ∀ j, bO (fun _ => 0) 0 j < 256 := L0_E (by decide)
  have h1 : two (w1 (wR L0 1 0 (bO (fun _ => 0) 0)) (64 * 0 + 0) 1) := w1_two (wR_two h0 (by decide) hv) (by decide)
  refine ⟨hc, h1, by decide, fun _ => by show 0 < 256; decide, by decide, ⟨by decide, by decide⟩, ⟨L0_E (by omega), L0_E (by omega)⟩, ⟨rfl, rfl, rfl⟩, ⟨?_, ?_⟩, fun _ => ⟨Or.inl rfl, rfl, rfl, rfl, rfl, ?_, ?_, ?_⟩⟩
  · show 0 ≤ 129; decide
  · show 0 ≤ 129; decide
  · intro k hk; exact absurd hk (Nat.not_lt_zero k)
  · intro i j _ hj; exact absurd hj (Nat.not_lt_zero j)
  · intro k hk; exact absurd hk (Nat.not_lt_zero k)
theorem J_feed (J : Jn n L fd fc op tn eb ec L' tn' eb' ec') (z : Int) : Jn n L (fedF fd fc z).1 (fedF fd fc z).2.1 op tn eb ec L' tn' eb' ec' := by
  obtain ⟨h1, h2, h3, h4, h5⟩ := J
  unfold fedF
  by_cases q : 0 ≤ z ∧ z ≤ 255 ∧ fc < 48
  · rw [if_pos q]
    exact ⟨h1, h2, by show fc + 1 ≤ 48; omega, vu_lt h4 (by omega), h5⟩
  · rw [if_neg q]
    exact ⟨h1, h2, h3, h4, h5⟩
theorem J_ans (J : Jn n L fd fc op tn eb ec L' tn' eb' ec') : (∀ nz iz, q_find L.1 (bO eb ec) op ec nz iz = q_find L'.1 (bO eb' ec') op ec' nz iz) ∧ (∀ kz wz, q_entry L.1 (bO eb ec) op ec kz wz = q_entry L'.1 (bO eb' ec') op ec' kz wz) ∧ q_free op n ec = q_free op n ec' ∧ q_root op tn = q_root op tn' ∧ q_bad L.1 (bO eb ec) op tn ec = qm_bad L'.1 (bO eb' ec') op tn' ec' n := by
  obtain ⟨h1, h2, h3, h4, h5, h6, h7, h8, h9, h10⟩ := J
  by_cases q : op = 0
  · refine ⟨fun nz iz => ?_, fun kz wz => ?_, ?_, ?_, ?_⟩
    · unfold q_find; rw [if_pos q, if_pos q]
    · unfold q_entry; rw [if_neg (fun h => h.1 q), if_neg (fun h => h.1 q)]
    · unfold q_free; rw [if_pos q, if_pos q]
    · unfold q_root; rw [if_pos q, if_pos q]
    · unfold q_bad qm_bad; rw [if_pos q, if_pos q]
  · obtain ⟨k1, k2, k3, k4, k5, k6, k7, k8⟩ := h10 q
    subst k2; subst k3
    rw [h8.1, k4]
    exact ⟨fun _ _ => rfl, fun _ _ => rfl, rfl, rfl, bad_eq h7.1 k8 h1.2⟩
theorem J_put (J : Jn n L fd fc op tn eb ec L' tn' eb' ec') (z : Int) :
    (putF n L fd fc op tn eb ec z).2.2.2.2.2 = (putF n L' fd fc op tn' eb' ec' z).2.2.2.2.2 ∧ (putF n L fd fc op tn eb ec z).2.1 = (putF n L' fd fc op tn' eb' ec' z).2.1 ∧
    Jn n (putF n L fd fc op tn eb ec z).1 fd (putF n L fd fc op tn eb ec z).2.1 op (putF n L fd fc op tn eb ec z).2.2.1 (putF n L fd fc op tn eb ec z).2.2.2.1 (putF n L fd fc op tn eb ec z).2.2.2.2.1
      (putF n L' fd fc op tn' eb' ec' z).1 (putF n L' fd fc op tn' eb' ec' z).2.2.1 (putF n L' fd fc op tn' eb' ec' z).2.2.2.1 (putF n L' fd fc op tn' eb' ec' z).2.2.2.2.1 := by
  have J0 := J
  obtain ⟨h1, h2, h3, h4, h5, h6, h7, h8, h9, h10⟩ := J
  by_cases q : op ≠ 0 ∧ 0 ≤ z ∧ z ≤ 65535 ∧ fc ≠ 0
  · obtain ⟨k1, k2, k3, k4, k5, k6, k7, k8⟩ := h10 q.1
    obtain rfl := J_L h8 k5
    subst k2; subst k3
    unfold putF
    rw [if_pos q, if_pos q, k4]
    by_cases r : fN (fun k => hF L'.1 (bO eb ec' k) fd fc) ec' < ec'
    · rw [if_pos r, if_pos r]
      refine ⟨rfl, rfl, h1, h2, by show 0 ≤ 48; decide, h4, h5, h6, h7, h8, h9, h10⟩
    rw [if_neg r, if_neg r]
    by_cases u : lfB (bO eb ec') ec' n < n ∧ ec' < 40
    · rw [if_pos u, if_pos u, bO_up k4]
      refine ⟨rfl, rfl, ?_⟩
      dsimp only
      have hb3 : 3 ≤ lfB (bO eb ec') ec' n := by unfold lfB; omega
      generalize lfB (bO eb ec') ec' n = b at u hb3 ⊢
      have hvn := bO_add h7.1 u.1
      have hvn' : ∀ k, bO (va_up eb' ec' b) (ec' + 1) k < n := by rw [bO_up k4]; exact hvn
      have hv : ∀ j, bO (va_up eb ec' b) (ec' + 1) j < 256 := fun j => Nat.lt_of_lt_of_le (hvn j) (by omega)
      generalize hV : bO (va_up eb ec' b) (ec' + 1) = V at hv
      have s1 := seqP_E (w0 L') b z.toNat fc fd
      have s2 := seqP_R (wE (w0 L') b z.toNat fc fd) (3 - tn') (ec' + 1) V
      have s3 := seqP_1 (wR (wE (w0 L') b z.toNat fc fd) (3 - tn') (ec' + 1) V) (64 * 0 + 0) (3 - tn')
      have t2 : two (w1 (wR (wE (w0 L') b z.toNat fc fd) (3 - tn') (ec' + 1) V) (64 * 0 + 0) (3 - tn')) := w1_two (wR_two (wE_two ⟨h2.1, h2.2⟩ (by omega) h3 h4) (by omega) hv) (by omega)
      have z0 : (w0 L').2.2.2 = 0 := rfl
      have c1 : (wE (w0 L') b z.toNat fc fd).2.2.2 = 64 := by rw [wE_c, z0]
      have c2 : (wR (wE (w0 L') b z.toNat fc fd) (3 - tn') (ec' + 1) V).2.2.2 = 128 := by rw [wR_c, c1]
      have c3 : (w1 (wR (wE (w0 L') b z.toNat fc fd) (3 - tn') (ec' + 1) V) (64 * 0 + 0) (3 - tn')).2.2.2 = 129 := by rw [w1_c, c2]
      have pl : ∀ k, k < 129 → (w1 (wR (wE (w0 L') b z.toNat fc fd) (3 - tn') (ec' + 1) V) (64 * 0 + 0) (3 - tn')).2.1 k = if k < 64 then 64 * b + k else if k < 128 then 64 * (3 - tn') + (k - 64) else 0 := by
        intro k hk
        by_cases a1 : k < 64
        · rw [if_pos a1, s3.2.1 k (by omega), s2.2.1 k (by omega)]
          have := s1.2.2 k a1
          rw [z0, Nat.zero_add] at this
          exact this
        · rw [if_neg a1]
          by_cases a2 : k < 128
          · rw [if_pos a2, s3.2.1 k (by omega)]
            have := s2.2.2 (k - 64) (by omega)
            rw [c1, show 64 + (k - 64) = k by omega] at this
            exact this
          · rw [if_neg a2]
            have := s3.2.2 0 (by omega)
            rw [c2, show 128 + 0 = k by omega] at this
            exact this
      refine ⟨h1, t2, by decide, h4, h5, ⟨by omega, by omega⟩, ⟨hvn, hvn'⟩, ⟨rfl, rfl, rfl⟩, ⟨by rw [c3]; exact Nat.le_refl _, by rw [c3]; exact Nat.le_refl _⟩, fun _ => ⟨by omega, rfl, rfl, bO_up k4, rfl, ?_, ?_, ?_⟩⟩
      · intro k hk
        rw [c3] at hk
        rw [pl k hk]
        repeat' split
        all_goals omega
      · intro i j hij hj
        rw [c3] at hj
        rw [pl i (by omega), pl j hj]
        repeat' split
        all_goals omega
      · intro k hk
        rw [bO_t hk]
        by_cases a : k = ec'
        · rw [a, va_up_self]; exact hb3
        · rw [va_up_ne _ _ a]
          have := k8 k (by omega)
          rwa [bO_t (by omega)] at this
    · rw [if_neg u, if_neg u]
      exact ⟨rfl, rfl, J0⟩
  · unfold putF
    rw [if_neg q, if_neg q]
    exact ⟨rfl, rfl, J0⟩
theorem J_drop (J : Jn n L fd fc op tn eb ec L' tn' eb' ec') (z : Int) :
    (dropF L op tn eb ec z).2.2.2.2 = (dropF L' op tn' eb' ec' z).2.2.2.2 ∧
    Jn n (dropF L op tn eb ec z).1 fd fc op (dropF L op tn eb ec z).2.1 (dropF L op tn eb ec z).2.2.1 (dropF L op tn eb ec z).2.2.2.1
      (dropF L' op tn' eb' ec' z).1 (dropF L' op tn' eb' ec' z).2.1 (dropF L' op tn' eb' ec' z).2.2.1 (dropF L' op tn' eb' ec' z).2.2.2.1 := by
  have J0 := J
  obtain ⟨h1, h2, h3, h4, h5, h6, h7, h8, h9, h10⟩ := J
  by_cases o : op = 0
  · unfold dropF
    rw [if_neg (fun h => h.1 o), if_neg (fun h => h.1 o)]
    exact ⟨rfl, J0⟩
  obtain ⟨k1, k2, k3, k4, k5, k6, k7, k8⟩ := h10 o
  obtain rfl := J_L h8 k5
  subst k2; subst k3
  unfold dropF
  by_cases q : op ≠ 0 ∧ 0 ≤ z ∧ z < (ec' : Int)
  · rw [if_pos q, if_pos q]
    have hz : z.toNat < ec' := by omega
    generalize z.toNat = y at hz
    rw [bO_shf k4 hz]
    refine ⟨rfl, ?_⟩
    dsimp only
    have hvn := shf_n (by omega) h7.1 hz
    have hvn' : ∀ k, bO (shf eb' y (ec' - 1 - y)) (ec' - 1) k < n := by rw [bO_shf k4 hz]; exact hvn
    have hv : ∀ j, bO (shf eb y (ec' - 1 - y)) (ec' - 1) j < 256 := fun j => Nat.lt_of_lt_of_le (hvn j) (by omega)
    generalize hV : bO (shf eb y (ec' - 1 - y)) (ec' - 1) = V at hv
    have s2 := seqP_R (w0 L') (3 - tn') (ec' - 1) V
    have s3 := seqP_1 (wR (w0 L') (3 - tn') (ec' - 1) V) (64 * 0 + 0) (3 - tn')
    have t2 : two (w1 (wR (w0 L') (3 - tn') (ec' - 1) V) (64 * 0 + 0) (3 - tn')) := w1_two (wR_two ⟨h2.1, h2.2⟩ (by omega) hv) (by omega)
    have z0 : (w0 L').2.2.2 = 0 := rfl
    have c2 : (wR (w0 L') (3 - tn') (ec' - 1) V).2.2.2 = 64 := by rw [wR_c, z0]
    have c3 : (w1 (wR (w0 L') (3 - tn') (ec' - 1) V) (64 * 0 + 0) (3 - tn')).2.2.2 = 65 := by rw [w1_c, c2]
    have pl : ∀ k, k < 65 → (w1 (wR (w0 L') (3 - tn') (ec' - 1) V) (64 * 0 + 0) (3 - tn')).2.1 k = if k < 64 then 64 * (3 - tn') + k else 0 := by
      intro k hk
      by_cases a1 : k < 64
      · rw [if_pos a1, s3.2.1 k (by omega)]
        have := s2.2.2 k a1
        rw [z0, Nat.zero_add] at this
        exact this
      · rw [if_neg a1]
        have := s3.2.2 0 (by omega)
        rw [c2, show 64 + 0 = k by omega] at this
        exact this
    refine ⟨h1, t2, h3, h4, h5, ⟨by omega, by omega⟩, ⟨hvn, hvn'⟩, ⟨rfl, rfl, rfl⟩, ⟨by rw [c3]; decide, by rw [c3]; decide⟩, fun _ => ⟨by omega, rfl, rfl, bO_shf k4 hz, rfl, ?_, ?_, ?_⟩⟩
    · intro k hk
      rw [c3] at hk
      rw [pl k hk]
      split <;> omega
    · intro i j hij hj
      rw [c3] at hj
      rw [pl i (by omega), pl j hj]
      split
      · split <;> omega
      · split <;> omega
    · intro k hk
      rw [bO_t hk, shf_at]
      have g1 := k8 k (by omega)
      have g2 := k8 (k + 1) (by omega)
      rw [bO_t (by omega)] at g1 g2
      split
      · exact g2
      · exact g1
  · rw [if_neg q, if_neg q]
    exact ⟨rfl, J0⟩
theorem J_crash (J : Jn n L fd fc op tn eb ec L' tn' eb' ec') (z : Int) :
    (crF L op z).2.2 = (mcF L' op z).2.2 ∧ (crF L op z).2.1 = (mcF L' op z).2.1 ∧ Jn n (crF L op z).1 fd fc (crF L op z).2.1 tn eb ec (mcF L' op z).1 tn' eb' ec' := by
  have J0 := J
  obtain ⟨h1, h2, h3, h4, h5, h6, h7, h8, h9, h10⟩ := J
  by_cases o : op = 0
  · unfold crF mcF
    rw [if_neg (fun h => h.1 o), if_neg (fun h => h.1 o)]
    exact ⟨rfl, rfl, J0⟩
  obtain ⟨k1, k2, k3, k4, k5, k6, k7, k8⟩ := h10 o
  obtain rfl := J_L h8 k5
  unfold crF mcF
  by_cases q : op ≠ 0 ∧ L'.2.2.2 ≠ 0 ∧ 0 ≤ z ∧ z ≤ (L'.2.2.2 : Int)
  · rw [if_pos q, if_pos q]
    refine ⟨rfl, rfl, h1, ⟨unA_lt h2 _, h2.2⟩, h3, h4, by show 0 ≤ 1; decide, h6, h7, ⟨(un_eq k7 (by omega)).symm, rfl, rfl⟩, ⟨by show 0 ≤ 129; decide, h9.1⟩, fun h => absurd rfl h⟩
  · rw [if_neg q, if_neg q]
    exact ⟨rfl, rfl, J0⟩
theorem J_poke (J : Jn n L fd fc op tn eb ec L' tn' eb' ec') (bz iz mz : Int) :
    (pkF n L bz iz mz).2 = (pkF n L' bz iz mz).2 ∧ Jn n (pkF n L bz iz mz).1 fd fc op tn eb ec (pkF n L' bz iz mz).1 tn' eb' ec' := by
  have J0 := J
  obtain ⟨h1, h2, h3, h4, h5, h6, h7, h8, h9, h10⟩ := J
  unfold pkF
  by_cases q : (0 ≤ bz ∧ bz < (n : Int) ∧ 0 ≤ iz ∧ iz < 64) ∧ 1 ≤ mz ∧ mz ≤ 255
  · rw [if_pos q, if_pos q]
    have hx : ∀ a, a < 256 → a ^^^ mz.toNat < 256 := fun a ha => Nat.xor_lt_two_pow (n := 8) ha (by omega)
    refine ⟨rfl, h1, ⟨vu_lt h2.1 (hx _ (h2.1 _)), h2.2⟩, h3, h4, h5, h6, h7, ⟨?_, h8.2.1, h8.2.2⟩, h9, h10⟩
    show va_up L'.1 _ (L'.1 _ ^^^ _) = va_up L.1 _ (L.1 _ ^^^ _)
    rw [h8.1]
  · rw [if_neg q, if_neg q]
    exact ⟨rfl, J0⟩
theorem J_reopen (J : Jn n L fd fc op tn eb ec L' tn' eb' ec') :
    (if (rfR L.1 n eb).toInt = -1 then nI (rfC L.1 n) else -1 - rfR L.1 n eb) = (rmF L'.1 n tn' eb' ec').2.2.2.2 ∧ (if (rfR L.1 n eb).toInt = -1 then 1 else 0) = (rmF L'.1 n tn' eb' ec').1 ∧
    Jn n (w0 L) fd fc (if (rfR L.1 n eb).toInt = -1 then 1 else 0) (L.1 0) (rfE L.1 n eb) (rfC L.1 n) (w0 L') (rmF L'.1 n tn' eb' ec').2.1 (rmF L'.1 n tn' eb' ec').2.2.1 (rmF L'.1 n tn' eb' ec').2.2.2.1 := by
  obtain ⟨h1, h2, h3, h4, h5, h6, h7, h8, h9, h10⟩ := J
  rw [h8.1]
  have g0 := h2.1 0
  have hw : two (w0 L) := ⟨h2.1, h2.2⟩
  have hl : (w0 L').1 = (w0 L).1 ∧ (w0 L').2.1 = (w0 L).2.1 ∧ (w0 L').2.2.1 = (w0 L).2.2.1 := h8
  have hc : (w0 L).2.2.2 ≤ 129 ∧ (w0 L').2.2.2 ≤ 129 := ⟨by show 0 ≤ 129; decide, by show 0 ≤ 129; decide⟩
  by_cases t : t12 L.1
  · have t' : L.1 0 = 1 ∨ L.1 0 = 2 := t
    rw [rfE_t t, rfC_t t]
    by_cases r : rdO L.1 (L.1 0) n
    · have eN := rdO_N r
      have hX : ∀ k, k < L.1 (64 * L.1 0) → bO (cpE L.1 (L.1 0) eb (rdN L.1 (L.1 0) n)) (rdN L.1 (L.1 0) n) k = L.1 (64 * L.1 0 + (1 + k)) := fun k hk => by
        rw [eN, bO_t hk, cpE_at hk]
      have h64 : ∀ k, bO (cpE L.1 (L.1 0) eb (rdN L.1 (L.1 0) n)) (rdN L.1 (L.1 0) n) k < 64 := fun k => Nat.lt_of_lt_of_le (rdN_n (by omega) k) h1.2
      have hcg : lwN (wrE L.1) (bO (cpE L.1 (L.1 0) eb (rdN L.1 (L.1 0) n)) (rdN L.1 (L.1 0) n)) (rdN L.1 (L.1 0) n) = lwN (wrE L.1) (fun k => L.1 (64 * L.1 0 + (1 + k))) (L.1 (64 * L.1 0)) := by
        have e1 : lwN (wrE L.1) (bO (cpE L.1 (L.1 0) eb (rdN L.1 (L.1 0) n)) (rdN L.1 (L.1 0) n)) (L.1 (64 * L.1 0)) = lwN (wrE L.1) (fun k => L.1 (64 * L.1 0 + (1 + k))) (L.1 (64 * L.1 0)) := lwN_congr hX
        rw [← e1]
        congr 1
      have hor := lwN_or (P := wrE L.1) h64 (rdN L.1 (L.1 0) n)
      rw [rfR_tt t r, hcg]
      rw [hcg] at hor
      generalize lwN (wrE L.1) (fun k => L.1 (64 * L.1 0 + (1 + k))) (L.1 (64 * L.1 0)) = x at hor hcg
      have hle : L.1 (64 * L.1 0) ≤ 40 := r.1.2
      by_cases q : x = 1000
      · have hb : (lwI x).toInt = -1 := by unfold lwI; rw [if_pos q]; exact neg1_toInt
        have hm : rmF L.1 n tn' eb' ec' = (1, L.1 0, cpE L.1 (L.1 0) eb' (L.1 (64 * L.1 0)), L.1 (64 * L.1 0), nI (L.1 (64 * L.1 0))) := by
          refine rmF_o t r ?_
          have e2 : lwN (wrE L.1) (fun k => L.1 (64 * L.1 0 + (1 + k))) (L.1 (64 * L.1 0)) = x := by
            rw [← hcg]; exact (lwN_congr (fun k hk => (hX k hk).symm)).trans (by congr 1; exact eN.symm)
          rw [e2, q]; decide
        rw [if_pos hb, if_pos hb, hm, eN]
        have hn9 : ∀ (f : Nat → Nat) (k : Nat), bO (cpE L.1 (L.1 0) f (L.1 (64 * L.1 0))) (L.1 (64 * L.1 0)) k < n := fun f k => cpE_n (by omega) (fun j hj => r.2 j hj) k
        refine ⟨rfl, rfl, h1, hw, h3, h4, by show 1 ≤ 1; decide, ⟨hle, hle⟩, ⟨hn9 eb, hn9 eb'⟩, hl, hc, fun _ => ⟨t', rfl, rfl, ?_, rfl, ?_, ?_, ?_⟩⟩
        · exact bO_ex (fun k hk => by show cpE L.1 (L.1 0) eb' _ k = _; rw [cpE_at hk, cpE_at hk])
        · intro k hk; exact absurd hk (Nat.not_lt_zero k)
        · intro i j _ hj; exact absurd hj (Nat.not_lt_zero j)
        · intro k hk
          rw [bO_t hk, cpE_at hk]
          exact Nat.le_of_not_lt (fun z => r.2 k hk (Or.inl z))
      · have hx64 : x < 64 := hor.resolve_left q
        have hI : lwI x = nI x := by unfold lwI; rw [if_neg q]
        have hb : ¬ (lwI x).toInt = -1 := by rw [hI, nI_toInt (by omega)]; omega
        have hm : rmF L.1 n tn' eb' ec' = (0, tn', eb', ec', -1 - nI x) := by
          have e2 : lwN (wrE L.1) (fun k => L.1 (64 * L.1 0 + (1 + k))) (L.1 (64 * L.1 0)) = x := by
            rw [← hcg]; exact (lwN_congr (fun k hk => (hX k hk).symm)).trans (by congr 1; exact eN.symm)
          have := rmF_e (tn := tn') (eb := eb') (ec := ec') t r (by rw [e2]; omega)
          rw [e2] at this
          exact this
        rw [if_neg hb, if_neg hb, hm, hI]
        exact ⟨rfl, rfl, h1, hw, h3, h4, by show 0 ≤ 1; decide, ⟨rdN_le, h6.2⟩, ⟨rdN_n (by omega), h7.2⟩, hl, hc, fun h => absurd rfl h⟩
    · have hb : ¬ (rfR L.1 n eb).toInt = -1 := by rw [rfR_tf t r, nI_toInt (by omega)]; omega
      rw [if_neg hb, if_neg hb, rfR_tf t r, rmF_r t r]
      exact ⟨rfl, rfl, h1, hw, h3, h4, by show 0 ≤ 1; decide, ⟨rdN_le, h6.2⟩, ⟨rdN_n (by omega), h7.2⟩, hl, hc, fun h => absurd rfl h⟩
  · have hb : ¬ (rfR L.1 n eb).toInt = -1 := by rw [rfR_f t]; decide +kernel
    rw [if_neg hb, if_neg hb, rfR_f t, rmF_n t, rfE_f t, rfC_f t]
    refine ⟨by show -1 - nI 0 = (-1 : Int32); decide +kernel, rfl, h1, hw, h3, h4, by show 0 ≤ 1; decide, ⟨by decide, h6.2⟩, ⟨bO_lt (by omega) (fun k hk => absurd hk (Nat.not_lt_zero k)), h7.2⟩, hl, hc, fun h => absurd rfl h⟩
end JS
