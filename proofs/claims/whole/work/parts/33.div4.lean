/-! Division.divide -/
section DY
variable {L : g_L} {σ0 : g_S} {s : Nat → Nat} {lf : Nat → Nat → Nat} {v : Nat → Nat} {dv : Nat}
theorem p_div15 (hL : g_ok L) (hD : dvOK L σ0 dv) (h35 : 136 ≤ L.2.2 35) {a : Nat} (ha : a < 45) (a4 : a ≠ 34) (h : GV L s lf v) (sa : s a ≤ 135) : ∃ s' lf', BX1_divide_15 (mkN L σ0 s lf) dv (L.1 a) = some (mkN L σ0 s' lf') ∧ GV L s' lf' (va_up (va_up v 34 0) 35 (v a)) := by
  have h4 : (34 : Nat) < 45 := by decide
  have h5 : (35 : Nat) < 45 := by decide
  have hG : GV L (va_up s 34 0) lf (va_up v 34 0) := by
    have := h.up (i := 34) (n := 0) (g := lf 34) (x := 0) ⟨Nat.zero_le _, (h 34 h4).2.1, Or.inl rfl, rfl⟩
    rw [up_same] at this
    exact this
  obtain ⟨s', lf', e1, e2⟩ := q_become (σ0 := σ0) hL h5 ha hG (by rw [va_up_ne _ _ a4]; omega)
  rw [va_up_ne _ _ a4] at e2
  refine ⟨s', lf', ?_, e2⟩
  unfold BX1_divide_15
  rw [← nI_0]
  simp only [dv_q hD, dv_r hD, n_put hL h4, n_o hL h5, Option.bind_some, e1]
/-- the scaled divisor: its size, its highest limb -/
theorem p_scaled {g : Nat → Nat} {n k y mv : Nat} (hg : ∀ q, g q < 2147483648) (hk : isbl y k) (hk1 : k ≤ 31 * (n + 2)) (hk0 : 0 < k) (hmv : mv = 31 * (n + 2) - k) (hw : wv 2147483648 g (n + 3) = 2 ^ mv * y) : g (n + 2) = 0 ∧ 2147483648 ≤ 2 * g (n + 1) ∧ wt g (n + 3) = n + 2 ∧ wv 2147483648 g (n + 2) = 2 ^ mv * y := by
  have hlt : 2 ^ mv * y < 2147483648 ^ (n + 2) := by
    have h1 : 2 ^ mv * y < 2 ^ mv * 2 ^ k := Nat.mul_lt_mul_of_pos_left hk.1 (Nat.pow_pos (by decide))
    rw [← Nat.pow_add, show mv + k = 31 * (n + 2) by omega, ← lb_pow] at h1
    exact h1
  have hge : 2 ^ (31 * (n + 2) - 1) ≤ 2 ^ mv * y := by
    rcases hk.2 with q | q
    · omega
    · have h1 : 2 ^ mv * 2 ^ (k - 1) ≤ 2 ^ mv * y := Nat.mul_le_mul_left _ q
      rw [← Nat.pow_add, show mv + (k - 1) = 31 * (n + 2) - 1 by omega] at h1
      exact h1
  have e1 : wv 2147483648 g (n + 3) = wv 2147483648 g (n + 2) + g (n + 2) * 2147483648 ^ (n + 2) := wv_s _ _ _
  have h0 : g (n + 2) = 0 := by
    rcases Nat.eq_zero_or_pos (g (n + 2)) with q | q
    · exact q
    · have : 1 * 2147483648 ^ (n + 2) ≤ g (n + 2) * 2147483648 ^ (n + 2) := Nat.mul_le_mul_right _ q
      rw [Nat.one_mul] at this
      omega
  have e2 : wv 2147483648 g (n + 2) = 2 ^ mv * y := by
    rw [h0, Nat.zero_mul] at e1
    omega
  have e3 : wv 2147483648 g (n + 2) = wv 2147483648 g (n + 1) + g (n + 1) * 2147483648 ^ (n + 1) := wv_s _ _ _
  have hl := wv_lt (B := 2147483648) (n := n + 1) (g := g) (fun q _ => hg q)
  have hp : 2 ^ (31 * (n + 2) - 1) = 1073741824 * 2147483648 ^ (n + 1) := by
    rw [lb_pow, show 31 * (n + 2) - 1 = 30 + 31 * (n + 1) by omega, Nat.pow_add]
  have ht : 2147483648 ≤ 2 * g (n + 1) := by
    rcases Nat.lt_or_ge (g (n + 1)) 1073741824 with q | q
    · have : (g (n + 1) + 1) * 2147483648 ^ (n + 1) ≤ 1073741824 * 2147483648 ^ (n + 1) := Nat.mul_le_mul_right _ q
      rw [Nat.add_mul, Nat.one_mul] at this
      omega
    · omega
  refine ⟨h0, ht, ?_, e2⟩
  show (if g (n + 2) = 0 then wt g (n + 2) else n + 2 + 1) = n + 2
  rw [if_pos h0]
  show (if g (n + 1) = 0 then wt g (n + 1) else n + 1 + 1) = n + 2
  rw [if_neg (by omega)]
theorem q_divide (hL : g_ok L) (hD : dvOK L σ0 dv) (h34 : 136 ≤ L.2.2 34) (h35 : 136 ≤ L.2.2 35) (h36 : 136 ≤ L.2.2 36) {a b : Nat} (ha : a < 45) (hb : b < 45) (a4 : a ≠ 34) (a5 : a ≠ 35) (a6 : a ≠ 36) (b4 : b ≠ 34) (b5 : b ≠ 35) (b6 : b ≠ 36) (h : GV L s lf v) (sa : s a ≤ 135) (sb : s b ≤ 135) :
    ∃ s' lf' v', fX1_divide (mkN L σ0 s lf) dv (L.1 a) (L.1 b) = some (mkN L σ0 s' lf') ∧ GV L s' lf' v' ∧ v' 34 = v a / v b ∧ v' 35 = v a % v b ∧ ∀ i, i ≠ 34 → i ≠ 35 → i ≠ 36 → v' i = v i := by
  have h4 : (34 : Nat) < 45 := by decide
  have h5 : (35 : Nat) < 45 := by decide
  have h6 : (36 : Nat) < 45 := by decide
  have ga := h a ha
  have gb := h b hb
  obtain ⟨x1, x2, x3, x4⟩ := ga
  obtain ⟨y1, y2, y3, y4⟩ := gb
  have hzero : v b = 0 ↔ s b = 0 := by rw [← y4]; exact wc_zero (by decide) y3
  unfold fX1_divide
  simp only [n_o hL hb, p_isZero hL hb y1, Option.bind_some]
  have small : (v b = 0 ∨ v a < v b) → ∃ s' lf' v', BX1_divide_15 (mkN L σ0 s lf) dv (L.1 a) = some (mkN L σ0 s' lf') ∧ GV L s' lf' v' ∧ v' 34 = v a / v b ∧ v' 35 = v a % v b ∧ ∀ i, i ≠ 34 → i ≠ 35 → i ≠ 36 → v' i = v i := by
    intro hq
    obtain ⟨s', lf', e1, e2⟩ := p_div15 (σ0 := σ0) hL hD h35 ha a4 h sa
    refine ⟨s', lf', _, e1, e2, ?_, ?_, fun i i4 i5 i6 => by rw [va_up_ne _ _ i5, va_up_ne _ _ i4]⟩
    · rw [va_up_ne _ _ (by decide), va_up_self]
      rcases hq with q | q
      · rw [q, Nat.div_zero]
      · rw [Nat.div_eq_of_lt q]
    · rw [va_up_self]
      rcases hq with q | q
      · rw [q, Nat.mod_zero]
      · rw [Nat.mod_eq_of_lt q]
  by_cases hb0 : s b = 0
  · rw [if_neg (by rw [if_pos hb0]; decide)]
    exact small (Or.inl (hzero.mpr hb0))
  · rw [if_pos (by rw [if_neg hb0])]
    simp only [n_o hL ha, p_order hL ha hb h, Option.bind_some]
    by_cases hlt : v a < v b
    · rw [if_neg (by rw [cmpI_lt hlt]; decide)]
      exact small (Or.inr hlt)
    · rw [if_pos (Int32.not_lt.mp (fun q => hlt ((cmpI_neg _ _).mp q)))]
      simp only [n_size hL hb, Option.bind_some]
      by_cases hb1 : s b = 1
      · have hvb : v b = lf b 0 := by rw [← y4, hb1, wv_s, wv_0]; simp
        have hpos : 0 < lf b 0 := by
          rcases y3 with q | q
          · omega
          · rw [hb1] at q; exact Nat.pos_of_ne_zero q
        rw [if_pos (by rw [hb1]; rfl)]
        obtain ⟨s1, l1, e1, g1⟩ := q_become (σ0 := σ0) hL h4 ha h (by omega)
        have gb1 := g1 b hb
        rw [va_up_ne _ _ b4] at gb1
        have hs1 : s1 b = 1 := by
          have c1 := gw_size gb1 (k := 1) (by rw [Nat.pow_one, hvb]; exact y2 0)
          rcases Nat.eq_zero_or_pos (s1 b) with q | q
          · have := gb1.2.2.2
            rw [q, wv_0] at this
            omega
          · omega
        have hl1 : l1 b 0 = lf b 0 := by
          have := gb1.2.2.2
          rw [hs1, wv_s, wv_0, hvb] at this
          simpa using this
        have hrb := (hL.2.2.2 b hb).1
        have eg := n_get (σ0 := σ0) (s := s1) (lf := l1) hL hb (show 0 < L.2.2 b by omega)
        rw [nI_0, hl1] at eg
        obtain ⟨s2, l2, e2, g2⟩ := q_div (σ0 := σ0) hL h4 g1 hpos (y2 0)
        rw [va_up_self] at e2 g2
        have hmod : v a % lf b 0 < 2147483648 := Nat.lt_trans (Nat.mod_lt _ hpos) (y2 0)
        obtain ⟨s3, l3, e3, g3⟩ := q_becomeUnsigned (σ0 := σ0) (n := v a % lf b 0) hL h5 g2 (by omega)
        refine ⟨s3, l3, _, ?_, g3, ?_, ?_, fun i i4 i5 i6 => ?_⟩
        · simp only [dv_q hD, dv_r hD, n_o hL h4, n_row hL hb, eg, e1, e2, n_o hL h5, Option.bind_some]
          rw [ji_l hmod, e3]
          rfl
        · rw [va_up_ne _ _ (by decide), va_up_self, hvb]
        · rw [va_up_self, hvb]
        · rw [va_up_ne _ _ i5, va_up_ne _ _ i4, va_up_ne _ _ i4]
      · rw [if_neg (fun e => hb1 ((ja_e1 (by omega)).mp e))]
        obtain ⟨m, hm⟩ : ∃ m, s b = m + 2 := ⟨s b - 2, by omega⟩
        obtain ⟨k, k1, k2, k3, k4⟩ := p_bits (σ0 := σ0) hL hb h
        have k5 : 31 * (m + 1) < k := by
          rcases k3 with q | q
          · omega
          · rw [hm] at q; exact q
        rw [hm] at k2
        obtain ⟨mv, hmv⟩ : ∃ mv, mv = 31 * (m + 2) - k := ⟨_, rfl⟩
        have hsa : s b ≤ s a := by
          rcases Nat.lt_or_ge (s a) (s b) with q | q
          · exact absurd (by rw [← x4, ← y4]; exact wc_lt (by decide) (fun j _ => x2 j) y3 q) hlt
          · exact q
        simp only [k4, Option.bind_some, g_let]
        rw [show (31 : Int32) = nI 31 from rfl, pk_mul, pk_sub (by omega), show s b * 31 - k = mv by omega]
        -- the divisor moved up
        obtain ⟨g6, e1, c1, c2⟩ := p_up (σ0 := σ0) hL h6 hb b6 (show mv < 31 by omega) h (by omega)
        rw [hm] at e1 c2
        obtain ⟨z0, z1, z2, z3⟩ := p_scaled c1 k1 k2 (by omega) hmv c2
        rw [z2] at e1
        have hG1 : GV L (va_up s 36 (m + 2)) (va_up lf 36 g6) (va_up v 36 (2 ^ mv * v b)) := h.up ⟨by omega, c1, Or.inr (by show g6 (m + 1) ≠ 0; omega), z3⟩
        -- the dividend moved up
        obtain ⟨g5, e2, d1, d2⟩ := p_up (σ0 := σ0) (s := va_up s 36 (m + 2)) (lf := va_up lf 36 g6) hL h5 ha a5 (show mv < 31 by omega) hG1 (by rw [va_up_ne _ _ a6]; omega)
        rw [va_up_ne _ _ a6, va_up_ne _ _ a6] at d2
        rw [va_up_ne _ _ a6] at e2
        simp only [dv_c hD, dv_r hD, n_o hL h6, n_o hL h5, e1, e2, Option.bind_some, n_size hL ha, n_size hL hb]
        rw [va_up_ne _ _ a5, va_up_ne _ _ a6, va_up_ne _ _ b5, va_up_ne _ _ b6, hm, pk_sub (by omega)]
        obtain ⟨hi, hhi⟩ : ∃ hi, hi = s a - (m + 2) := ⟨_, rfl⟩
        rw [← hhi]
        have hva : v a < 2147483648 ^ s a := gw_val (h a ha)
        have hvb : 2147483648 ^ (m + 1) ≤ v b := by
          have := wc_low (B := 2147483648) y3 (by omega)
          rw [y4, hm] at this
          exact this
        have hidx : nI hi = nI (hi + 1) - 1 := (nI_pred hi).symm
        have hp : 0 < 2 ^ mv := Nat.pow_pos (by decide)
        -- the loop
        have hbnd : wv 2147483648 g5 (hi + 1 + (m + 2)) < 2147483648 ^ (hi + 1) * wv 2147483648 g6 (m + 2) := by
          rw [show hi + 1 + (m + 2) = s a + 1 by omega, d2, z3, Nat.mul_left_comm]
          refine Nat.mul_lt_mul_of_pos_left (Nat.lt_of_lt_of_le hva ?_) hp
          rw [show s a = (hi + 1) + (m + 1) by omega, Nat.pow_add]
          exact Nat.mul_le_mul_left _ hvb
        obtain ⟨gq, gr, f1, f2, f3, f4, f5, f6⟩ := p_divdL (σ0 := σ0) (dv := dv) (xb := L.1 b) (mv := nI mv) (hi := nI hi) (s := va_up (va_up s 36 (m + 2)) 35 (wt g5 (s a + 1))) hL hD (by rw [va_up_ne _ _ (by decide), va_up_self]) (by omega) c1 z1 g_fuel (hi + 1) (va_up (va_up lf 36 g6) 35 g5) (fuel_ge (by omega)) (by omega) (by omega)
          (by rw [va_up_ne _ _ (by decide), va_up_ne _ _ (by decide)]; exact (h 34 h4).2.1) (by rw [va_up_self]; exact d1) (by rw [va_up_ne _ _ (by decide), va_up_self]) (by rw [va_up_self]; exact hbnd)
        rw [va_up_self] at f6
        -- its end
        obtain ⟨s9, l9, g1, g2⟩ := p_divExit (σ0 := σ0) (s := va_up (va_up s 36 (m + 2)) 35 (wt g5 (s a + 1))) (lf := va_up (va_up (va_up (va_up lf 36 g6) 35 g5) 34 gq) 35 gr) (v := va_up v 36 (2 ^ mv * v b)) (hi := hi) (mv := mv) (n := m + 2) hL hD hb b4 b5 (by omega) (by rw [va_up_ne _ _ b5, va_up_ne _ _ b6]; exact hm) (by omega) (by omega) (fun i hi' i4 i5 => by
            rw [va_up_ne _ _ i5, va_up_ne _ _ i5, va_up_ne _ _ i4, va_up_ne _ _ i5]
            exact hG1 i hi') (by rw [va_up_ne _ _ (by decide), va_up_self]; exact f2) (by rw [va_up_self]; exact f3)
        rw [va_up_self, va_up_ne _ _ (show (34 : Nat) ≠ 35 by decide), va_up_self] at g2
        have hdu := div_uniq (Q := wv 2147483648 gq (hi + 1)) (V := wv 2147483648 g6 (m + 2)) (R := wv 2147483648 gr (m + 2)) (X := v a) (Y := v b) hp z3 (by rw [f6, show hi + 1 + (m + 2) = s a + 1 by omega]; exact d2) f5
        rw [hdu.1, hdu.2] at g2
        refine ⟨s9, l9, _, ?_, g2, ?_, ?_, fun i i4 i5 i6 => ?_⟩
        · conv => lhs; rw [show LX1_divide_116 g_fuel (mkN L σ0 (va_up (va_up s 36 (m + 2)) 35 (wt g5 (s a + 1))) (va_up (va_up lf 36 g6) 35 g5)) dv (L.1 b) (nI mv) (nI hi) (nI hi) = LX1_divide_116 g_fuel (mkN L σ0 (va_up (va_up s 36 (m + 2)) 35 (wt g5 (s a + 1))) (va_up (va_up lf 36 g6) 35 g5)) dv (L.1 b) (nI mv) (nI hi) (nI (hi + 1) - 1) from congrArg _ hidx]
          rw [f1, g1, n_o hL hb]
          rfl
        · rw [va_up_ne _ _ (by decide), va_up_ne _ _ (by decide), va_up_self]
        · rw [va_up_self]
        · rw [va_up_ne _ _ i5, va_up_ne _ _ i5, va_up_ne _ _ i4, va_up_ne _ _ i6]
end DY
