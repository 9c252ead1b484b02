/-! the naturals' methods over the desk's picture; fractions -/
theorem TOP_67 : TOP ≤ 2147483648 ^ 67 := by
  unfold TOP
  rw [lb_pow]
  exact Nat.pow_le_pow_right (by decide) (by decide)
theorem TOP_WB {x : Nat} (h : x < TOP) : x < WB := by
  refine Nat.lt_of_lt_of_le h ?_
  unfold TOP WB
  rw [lb_pow]
  exact Nat.pow_le_pow_right (by decide) (by decide)
theorem TOP_2 {x y : Nat} (hx : x < TOP) (hy : y < TOP) : 2 * (x * y) < WB := by
  have h1 : x * y < TOP * TOP := Nat.mul_lt_mul'' hx hy
  have h2 : 2 * (TOP * TOP) ≤ WB := by
    have e : 2 * (TOP * TOP) = 2 ^ (1 + 2048 + 2048) := by
      unfold TOP
      rw [Nat.pow_add, Nat.pow_add, Nat.pow_one, Nat.mul_assoc]
    rw [e]
    unfold WB
    rw [lb_pow]
    exact Nat.pow_le_pow_right (by decide) (by decide)
  omega
theorem TOP_M {x y : Nat} (hx : x < TOP) (hy : y < TOP) : x * y < WB := by
  have := TOP_2 hx hy
  omega
theorem TOP_S {x y z w : Nat} (hx : x < TOP) (hy : y < TOP) (hz : z < TOP) (hw : w < TOP) : x * y + z * w < WB := by
  have := TOP_2 hx hy
  have := TOP_2 hz hw
  omega
theorem TOP_1 : 1 < TOP := by
  have : (2 : Nat) ^ 1 ≤ 2 ^ 2048 := Nat.pow_le_pow_right (by decide) (by decide)
  unfold TOP
  omega
theorem TOP_64 : 18446744073709551616 < TOP := by
  have : (2 : Nat) ^ 65 ≤ 2 ^ 2048 := Nat.pow_le_pow_right (by decide) (by decide)
  unfold TOP
  omega
theorem gw_67 {L : g_L} {i n : Nat} {g : Nat → Nat} {x : Nat} (h : gw L i n g x) (hx : x < TOP) : n ≤ 67 := gw_size h (Nat.lt_of_lt_of_le hx TOP_67)
section FR
variable {K : g_Q9} {σb σ : g_S} {y : g_Y} {v : Nat → Nat}
theorem t_isZero (hK : kOK K) (S : St K σb σ y v) {i : Nat} (hi : i < 45) : fX3_isZero σ (K.1.1 i) = some (if v i = 0 then 1 else 0, σ) := by
  obtain ⟨a, b, c, d, s, lf, rfl, h⟩ := S
  obtain ⟨b1, b2, b3, b4⟩ := h i hi
  have hz : v i = 0 ↔ s i = 0 := by rw [← b4]; exact wc_zero (by decide) b3
  unfold dk
  rw [p_isZero hK.1 hi b1]
  by_cases h0 : s i = 0
  · rw [if_pos h0, if_pos (hz.mpr h0)]
  · rw [if_neg h0, if_neg (fun q => h0 (hz.mp q))]
theorem t_isOne (hK : kOK K) (S : St K σb σ y v) {i : Nat} (hi : i < 45) : fX3_isOne σ (K.1.1 i) = some (if v i = 1 then 1 else 0, σ) := by
  obtain ⟨a, b, c, d, s, lf, rfl, h⟩ := S
  exact p_isOne hK.1 hi h
theorem t_fits (hK : kOK K) (S : St K σb σ y v) {i : Nat} (hi : i < 45) : fX3_fits σ (K.1.1 i) = some (if v i < TOP then 1 else 0, σ) := by
  obtain ⟨a, b, c, d, s, lf, rfl, h⟩ := S
  exact p_fits hK.1 hi h
theorem t_isOdd (hK : kOK K) (S : St K σb σ y v) {i : Nat} (hi : i < 45) : fX3_isOdd σ (K.1.1 i) = some (if v i % 2 = 1 then 1 else 0, σ) := by
  obtain ⟨a, b, c, d, s, lf, rfl, h⟩ := S
  exact p_isOdd hK.1 hi h
theorem t_order (hK : kOK K) (S : St K σb σ y v) {i j : Nat} (hi : i < 45) (hj : j < 45) : fX3_order σ (K.1.1 i) (K.1.1 j) = some (cmpI (v i) (v j), σ) := by
  obtain ⟨a, b, c, d, s, lf, rfl, h⟩ := S
  exact p_order hK.1 hi hj h
theorem t_bits (hK : kOK K) (S : St K σb σ y v) {i : Nat} (hi : i < 45) : ∃ k, isbl (v i) k ∧ fX3_bitLength σ (K.1.1 i) = some (nI k, σ) := by
  obtain ⟨a, b, c, d, s, lf, rfl, h⟩ := S
  obtain ⟨k, k1, k2, k3, k4⟩ := p_bits (σ0 := cdS K.1 (mkF K y.1 (mkO K y.2.1 y.2.2 σb)) (K.2.2.1 2) (K.2.2.1 3) a b c d) hK.1 hi h
  exact ⟨k, k1, k4⟩
theorem t_become (hK : kOK K) (S : St K σb σ y v) {i j : Nat} (hi : i < 45) (hj : j < 45) (hb : v j < TOP ∨ (v j < WB ∧ 136 ≤ K.1.2.2 i)) : ∃ σ', fX3_become σ (K.1.1 i) (K.1.1 j) = some σ' ∧ St K σb σ' y (va_up v i (v j)) := by
  obtain ⟨a, b, c, d, s, lf, rfl, h⟩ := S
  have hr := (hK.1.2.2.2 i hi).1
  obtain ⟨s', lf', e1, e2⟩ := q_become (σ0 := cdS K.1 (mkF K y.1 (mkO K y.2.1 y.2.2 σb)) (K.2.2.1 2) (K.2.2.1 3) a b c d) hK.1 hi hj h (by
    rcases hb with q | q
    · have := gw_67 (h j hj) q; omega
    · have := gw_135 (h j hj) q.1; omega)
  exact ⟨_, e1, a, b, c, d, s', lf', rfl, e2⟩
theorem t_unsigned (hK : kOK K) (S : St K σb σ y v) {i : Nat} (hi : i < 45) {n : Nat} (hn : n < 18446744073709551616) : ∃ σ', fX3_becomeUnsigned σ (K.1.1 i) (lN n) = some σ' ∧ St K σb σ' y (va_up v i n) := by
  obtain ⟨a, b, c, d, s, lf, rfl, h⟩ := S
  obtain ⟨s', lf', e1, e2⟩ := q_becomeUnsigned (σ0 := cdS K.1 (mkF K y.1 (mkO K y.2.1 y.2.2 σb)) (K.2.2.1 2) (K.2.2.1 3) a b c d) hK.1 hi h hn
  exact ⟨_, e1, a, b, c, d, s', lf', rfl, e2⟩
theorem t_sum (hK : kOK K) (S : St K σb σ y v) {i p q : Nat} (hi : i < 45) (hp : p < 45) (hq : q < 45) (hip : p ≠ i) (hiq : q ≠ i) (h1 : v p < WB) (h2 : v q < WB) (hw : 136 ≤ K.1.2.2 i) : ∃ σ', fX3_becomeSum σ (K.1.1 i) (K.1.1 p) (K.1.1 q) = some σ' ∧ St K σb σ' y (va_up v i (v p + v q)) := by
  obtain ⟨a, b, c, d, s, lf, rfl, h⟩ := S
  have := gw_135 (h p hp) h1
  have := gw_135 (h q hq) h2
  obtain ⟨s', lf', e1, e2⟩ := q_sum (σ0 := cdS K.1 (mkF K y.1 (mkO K y.2.1 y.2.2 σb)) (K.2.2.1 2) (K.2.2.1 3) a b c d) hK.1 hi hp hq hip hiq h (by omega) (by omega)
  exact ⟨_, e1, a, b, c, d, s', lf', rfl, e2⟩
theorem t_dif (hK : kOK K) (S : St K σb σ y v) {i p q : Nat} (hi : i < 45) (hp : p < 45) (hq : q < 45) (hip : p ≠ i) (hiq : q ≠ i) (h1 : v p < WB) (hle : v q ≤ v p) (hw : 136 ≤ K.1.2.2 i) : ∃ σ', fX3_becomeDifference σ (K.1.1 i) (K.1.1 p) (K.1.1 q) = some σ' ∧ St K σb σ' y (va_up v i (v p - v q)) := by
  obtain ⟨a, b, c, d, s, lf, rfl, h⟩ := S
  have := gw_135 (h p hp) h1
  obtain ⟨s', lf', e1, e2⟩ := q_dif (σ0 := cdS K.1 (mkF K y.1 (mkO K y.2.1 y.2.2 σb)) (K.2.2.1 2) (K.2.2.1 3) a b c d) hK.1 hi hp hq hip hiq h (by omega) hle
  exact ⟨_, e1, a, b, c, d, s', lf', rfl, e2⟩
theorem t_prod (hK : kOK K) (S : St K σb σ y v) {i p q : Nat} (hi : i < 45) (hp : p < 45) (hq : q < 45) (hip : p ≠ i) (hiq : q ≠ i) (h1 : v p < TOP) (h2 : v q < TOP) (hw : 136 ≤ K.1.2.2 i) : ∃ σ', fX3_becomeProduct σ (K.1.1 i) (K.1.1 p) (K.1.1 q) = some σ' ∧ St K σb σ' y (va_up v i (v p * v q)) := by
  obtain ⟨a, b, c, d, s, lf, rfl, h⟩ := S
  have := gw_67 (h p hp) h1
  have := gw_67 (h q hq) h2
  obtain ⟨s', lf', e1, e2⟩ := q_prod (σ0 := cdS K.1 (mkF K y.1 (mkO K y.2.1 y.2.2 σb)) (K.2.2.1 2) (K.2.2.1 3) a b c d) hK.1 hi hp hq hip hiq h (by omega)
  exact ⟨_, e1, a, b, c, d, s', lf', rfl, e2⟩
theorem t_mul (hK : kOK K) (S : St K σb σ y v) {i F c0 : Nat} (hi : i < 45) (h1 : v i < WB) (hw : 136 ≤ K.1.2.2 i) (hF : F < 2147483648) (hc : c0 < 2147483648) : ∃ σ', fX3_multiplyAndAdd σ (K.1.1 i) (nI F) (nI c0) = some σ' ∧ St K σb σ' y (va_up v i (v i * F + c0)) := by
  obtain ⟨a, b, c, d, s, lf, rfl, h⟩ := S
  have := gw_135 (h i hi) h1
  obtain ⟨s', lf', e1, e2⟩ := q_mul (σ0 := cdS K.1 (mkF K y.1 (mkO K y.2.1 y.2.2 σb)) (K.2.2.1 2) (K.2.2.1 3) a b c d) hK.1 hi h (by omega) hF hc
  exact ⟨_, e1, a, b, c, d, s', lf', rfl, e2⟩
theorem t_div (hK : kOK K) (S : St K σb σ y v) {i n : Nat} (hi : i < 45) (h0 : 0 < n) (hn : n < 2147483648) : ∃ σ', fX3_divideBy σ (K.1.1 i) (nI n) = some (nI (v i % n), σ') ∧ St K σb σ' y (va_up v i (v i / n)) := by
  obtain ⟨a, b, c, d, s, lf, rfl, h⟩ := S
  obtain ⟨s', lf', e1, e2⟩ := q_div (σ0 := cdS K.1 (mkF K y.1 (mkO K y.2.1 y.2.2 σb)) (K.2.2.1 2) (K.2.2.1 3) a b c d) hK.1 hi h h0 hn
  exact ⟨_, e1, a, b, c, d, s', lf', rfl, e2⟩
theorem t_limb0 (hK : kOK K) (S : St K σb σ y v) {i : Nat} (hi : i < 45) : fX3_limbAt σ (K.1.1 i) 0 = some (nI (v i % 2147483648), σ) := by
  obtain ⟨a, b, c, d, s, lf, rfl, h⟩ := S
  obtain ⟨b1, b2, b3, b4⟩ := h i hi
  rw [show (0 : Int32) = nI 0 from rfl]
  unfold dk
  rw [p_limbAt hK.1 hi b1 (by decide)]
  congr 3
  rw [← b4]
  unfold la
  by_cases h0 : 0 < s i
  · rw [if_pos h0]
    obtain ⟨m, hm⟩ : ∃ m, s i = m + 1 := ⟨s i - 1, by omega⟩
    rw [hm, wv_head, Nat.add_mul_mod_self_left, Nat.mod_eq_of_lt (b2 0)]
  · rw [if_neg h0, show s i = 0 by omega, wv_0]
theorem t_small (hK : kOK K) (S : St K σb σ y v) {i : Nat} (hi : i < 45) : ∃ n, g_fi σ 3 (K.1.1 i) 1 = some (nI n) ∧ n < 1000 ∧ (n ≤ 1 ↔ v i < 2147483648) := by
  obtain ⟨a, b, c, d, s, lf, rfl, h⟩ := S
  have hr := (hK.1.2.2.2 i hi).2
  have hb := (h i hi).1
  refine ⟨s i, n_size hK.1 hi, by omega, ?_, ?_⟩
  · intro q
    have := gw_val (h i hi)
    have h2 : 2147483648 ^ s i ≤ 2147483648 ^ 1 := Nat.pow_le_pow_right (by decide) q
    rw [Nat.pow_one] at h2
    omega
  · intro q
    exact gw_size (h i hi) (by rw [Nat.pow_one]; exact q)
theorem St.dv (hK : kOK K) (a b c d : Int) : dvOK K.1 (cdS K.1 (mkF K y.1 (mkO K y.2.1 y.2.2 σb)) (K.2.2.1 2) (K.2.2.1 3) a b c d) (K.2.2.1 3) := by
  refine ⟨hK.2.2.2.2.2.1 3 (by decide), ?_⟩
  unfold cdS
  rw [g_up_n _ _ (fun e => by have := hK.2.2.1 3 2 (by decide) (by decide) e; omega), mkF_x (fun p hp e => hK.2.2.2.2.1 3 p (by decide) hp e.symm), mkO_o hK (by decide)]
  rfl
theorem St.dv0 (hK : kOK K) : dvOK K.1 (mkF K y.1 (mkO K y.2.1 y.2.2 σb)) (K.2.2.1 3) := by
  refine ⟨hK.2.2.2.2.2.1 3 (by decide), ?_⟩
  rw [mkF_x (fun p hp e => hK.2.2.2.2.1 3 p (by decide) hp e.symm), mkO_o hK (by decide)]
  rfl
theorem t_divide (hK : kOK K) (S : St K σb σ y v) {p q : Nat} (hp : p < 45) (hq : q < 45) (p4 : p < 34 ∨ 36 < p) (q4 : q < 34 ∨ 36 < q) (h1 : v p < WB) (h2 : v q < WB) : ∃ σ' v', fX1_divide σ (K.2.2.1 3) (K.1.1 p) (K.1.1 q) = some σ' ∧ St K σb σ' y v' ∧ v' 34 = v p / v q ∧ v' 35 = v p % v q ∧ ∀ i, i < 34 ∨ 36 < i → v' i = v i := by
  obtain ⟨a, b, c, d, s, lf, rfl, h⟩ := S
  have w1 := gw_135 (h p hp) h1
  have w2 := gw_135 (h q hq) h2
  obtain ⟨s', lf', v', e1, e2, e3, e4, e5⟩ := q_divide (σ0 := cdS K.1 (mkF K y.1 (mkO K y.2.1 y.2.2 σb)) (K.2.2.1 2) (K.2.2.1 3) a b c d) hK.1 (St.dv hK a b c d) (hK.2.1 34 (by omega)) (hK.2.1 35 (by omega)) (hK.2.1 36 (by omega)) hp hq (by omega) (by omega) (by omega) (by omega) (by omega) (by omega) h w1 w2
  exact ⟨_, v', e1, ⟨a, b, c, d, s', lf', rfl, e2⟩, e3, e4, fun i hi => e5 i (by omega) (by omega) (by omega)⟩
theorem t_cd (hK : kOK K) (S : St K σb σ y v) {p q : Nat} (hp : p < 45) (hq : q < 45) (p4 : p < 34 ∨ 38 < p) (q4 : q < 34 ∨ 38 < q) (h1 : v p < WB) (h2 : v q < WB) : ∃ σ' v', fX0_of σ (K.2.2.1 2) (K.1.1 p) (K.1.1 q) = some (K.1.1 37, σ') ∧ St K σb σ' y v' ∧ v' 37 = Nat.gcd (v p) (v q) ∧ ∀ i, i < 34 ∨ 38 < i → v' i = v i := by
  obtain ⟨a, b, c, d, s, lf, rfl, h⟩ := S
  obtain ⟨s', lf', v', a', b', c', d', e1, e2, e3, e4⟩ := q_cd (σ0 := mkF K y.1 (mkO K y.2.1 y.2.2 σb)) (dv := K.2.2.1 3) (cd := K.2.2.1 2) (a := a) (b := b) (c := c) (d := d) hK.1 hK.2.1 (St.dv0 hK) (hK.2.2.2.2.2.1 2 (by decide)) (fun e => by have := hK.2.2.1 3 2 (by decide) (by decide) e; omega) hp hq (by omega) (by omega) (by omega) (by omega) h h1 h2
  exact ⟨_, v', e1, ⟨a', b', c', d', s', lf', rfl, e2⟩, e3, e4⟩
-- fractions
theorem t_isWhole (hK : kOK K) (S : St K σb σ y v) {p : Nat} (hp : p < 17) : fX2_isWhole σ (K.2.1 p) = some (if v (2 * p + 1) = 1 then 1 else 0, σ) := by
  unfold fX2_isWhole
  simp only [rdF hK S hp, Option.bind_some, S.n hK (show 2 * p + 1 < 45 by omega), t_isOne hK S (show 2 * p + 1 < 45 by omega)]
  exact g_if_pos (by split <;> simp)
theorem t_fitsF (hK : kOK K) (S : St K σb σ y v) {p : Nat} (hp : p < 17) : fX2_fits σ (K.2.1 p) = some (if v (2 * p) < TOP ∧ v (2 * p + 1) < TOP then 1 else 0, σ) := by
  unfold fX2_fits BX2_fits_24 BX2_fits_25
  simp only [rdF hK S hp, Option.bind_some, S.n hK (show 2 * p < 45 by omega), S.n hK (show 2 * p + 1 < 45 by omega), t_fits hK S (show 2 * p + 1 < 45 by omega), t_fits hK S (show 2 * p < 45 by omega)]
  by_cases h1 : v (2 * p) < TOP
  · rw [if_neg (by rw [if_pos h1]; decide)]
    by_cases h2 : v (2 * p + 1) < TOP
    · rw [if_neg (by rw [if_pos h2]; decide), if_pos ⟨h1, h2⟩]
      exact g_if_pos (by simp)
    · rw [if_pos (by rw [if_neg h2]), if_neg (fun q => h2 q.2)]
      exact g_if_pos (by simp)
  · rw [if_pos (by rw [if_neg h1]), if_neg (fun q => h1 q.1)]
    exact g_if_pos (by simp)
theorem nI_b {n : Nat} (h : n ≤ 1) : nI n = 0 ∨ nI n = 1 := by
  rcases Nat.eq_zero_or_pos n with q | q
  · rw [q]; exact Or.inl rfl
  · rw [show n = 1 by omega]; exact Or.inr rfl
theorem t_sign (hK : kOK K) (S : St K σb σ y v) {p n : Nat} (hp : p < 17) (hn : n ≤ 1) : ∃ σ', fX2_sign σ (K.2.1 p) (nI n) = some σ' ∧ St K σb σ' (va_up y.1 p (if v (2 * p) = 0 then 0 else n), y.2) v := by
  unfold fX2_sign BX2_sign_19 BX2_sign_20
  have put : ∀ m, m ≤ 1 → ∃ σ', (g_if (nI m = 0 ∨ nI m = 1) <| (g_p σ 2 (K.2.1 p) 2 (.int (nI m))).bind fun σ3 => some σ3) = some σ' ∧ St K σb σ' (va_up y.1 p m, y.2) v := by
    intro m hm
    obtain ⟨σ', e1, e2⟩ := t_putF hK S hp m
    exact ⟨σ', by rw [g_if_pos (nI_b hm), e1]; rfl, e2⟩
  rcases Nat.eq_zero_or_pos n with q | q
  · subst q
    rw [if_pos (show nI 0 = 0 from rfl), show (if v (2 * p) = 0 then 0 else 0) = 0 by split <;> rfl]
    exact put 0 (by omega)
  · have q1 : n = 1 := by omega
    subst q1
    rw [if_neg (by decide)]
    simp only [rdF hK S hp, Option.bind_some, S.n hK (show 2 * p < 45 by omega), t_isZero hK S (show 2 * p < 45 by omega)]
    by_cases h0 : v (2 * p) = 0
    · rw [if_neg (by rw [if_pos h0]; decide), if_pos h0]
      exact put 0 (by omega)
    · rw [if_pos (by rw [if_neg h0]), if_neg h0]
      exact put 1 (by omega)
theorem t_becomeF (hK : kOK K) (S : St K σb σ y v) {p r : Nat} (hp : p < 17) (hr : r < 17) (hpr : p ≠ r) (h1 : v (2 * r) < TOP) (h2 : v (2 * r + 1) < TOP) (hb : y.1 r ≤ 1) : ∃ σ', fX2_become σ (K.2.1 p) (K.2.1 r) = some σ' ∧ St K σb σ' (va_up y.1 p (y.1 r), y.2) (va_up (va_up v (2 * p) (v (2 * r))) (2 * p + 1) (v (2 * r + 1))) := by
  unfold fX2_become
  obtain ⟨σ1, e1, S1⟩ := t_become hK S (i := 2 * p) (j := 2 * r) (by omega) (by omega) (Or.inl h1)
  have hv : va_up v (2 * p) (v (2 * r)) (2 * r + 1) = v (2 * r + 1) := va_up_ne _ _ (by omega)
  obtain ⟨σ2, e2, S2⟩ := t_become hK S1 (i := 2 * p + 1) (j := 2 * r + 1) (by omega) (by omega) (Or.inl (by rw [hv]; exact h2))
  rw [hv] at S2
  obtain ⟨σ3, e3, S3⟩ := t_putF hK S2 hp (y.1 r)
  refine ⟨σ3, ?_, S3⟩
  simp only [rdF hK S hp, rdF hK S hr, rdF hK S1 hp, rdF hK S1 hr, rdF hK S2 hr, Option.bind_some, S.n hK (show 2 * p < 45 by omega), S1.n hK (show 2 * p + 1 < 45 by omega), e1, e2]
  rw [g_if_pos (nI_b hb), e3]
  rfl
theorem t_whole (hK : kOK K) (S : St K σb σ y v) {p i n : Nat} (hp : p < 17) (hi : i < 45) (hne : i ≠ 2 * p) (h1 : v i < TOP) (hn : n ≤ 1) : ∃ σ', fX2_becomeWhole_ σ (K.2.1 p) (K.1.1 i) (nI n) = some σ' ∧ St K σb σ' (va_up y.1 p (if v i = 0 then 0 else n), y.2) (va_up (va_up v (2 * p) (v i)) (2 * p + 1) 1) := by
  unfold fX2_becomeWhole_
  obtain ⟨σ1, e1, S1⟩ := t_become hK S (i := 2 * p) (j := i) (by omega) (by omega) (Or.inl h1)
  obtain ⟨σ2, e2, S2⟩ := t_unsigned hK S1 (i := 2 * p + 1) (by omega) (n := 1) (by omega)
  obtain ⟨σ3, e3, S3⟩ := t_sign hK S2 hp hn
  have hv : va_up (va_up v (2 * p) (v i)) (2 * p + 1) 1 (2 * p) = v i := by rw [va_up_ne _ _ (by omega), va_up_self]
  rw [hv] at S3
  refine ⟨σ3, ?_, S3⟩
  rw [show (1 : Int64) = lN 1 from rfl]
  simp only [rdF hK S hp, rdF hK S1 hp, rdF hK S2 hp, Option.bind_some, S.n hK (show 2 * p < 45 by omega), S1.n hK (show 2 * p + 1 < 45 by omega), e1, e2, e3]
theorem t_long (hK : kOK K) (S : St K σb σ y v) {p : Nat} (hp : p < 17) {z : Int} (z1 : -9223372036854775808 ≤ z) (z2 : z < 9223372036854775808) : ∃ σ', fX2_becomeWhole σ (K.2.1 p) (lZ z) = some σ' ∧ St K σb σ' (va_up y.1 p (if z < 0 then 1 else 0), y.2) (va_up (va_up v (2 * p) z.natAbs) (2 * p + 1) 1) := by
  obtain ⟨σ1, e1, S1⟩ := t_unsigned hK S (i := 2 * p) (by omega) (n := z.natAbs) (by omega)
  obtain ⟨σ2, e2, S2⟩ := t_unsigned hK S1 (i := 2 * p + 1) (by omega) (n := 1) (by omega)
  obtain ⟨σ3, e3, S3⟩ := t_putF hK S2 hp (if z < 0 then 1 else 0)
  refine ⟨σ3, ?_, S3⟩
  unfold fX2_becomeWhole BX2_becomeWhole_16 BX2_becomeWhole_39
  rw [show (1 : Int64) = lN 1 from rfl, show (0 : Int64) = lZ 0 from rfl]
  simp only [rdF hK S hp, Option.bind_some]
  by_cases hz : 0 ≤ z
  · have ez : lZ z = lN z.natAbs := by rw [lZ_N]; congr 1; omega
    rw [if_pos ((lZ_ge (by omega) (by omega) (by omega) (by omega)).mpr hz)]
    simp only [S.n hK (show 2 * p < 45 by omega), ez, e1, Option.bind_some, rdF hK S1 hp, S1.n hK (show 2 * p + 1 < 45 by omega), e2]
    rw [← ez, if_pos ((lZ_ge (by omega) (by omega) (by omega) (by omega)).mpr hz), g_if_pos (by simp)]
    rw [if_neg (by omega)] at e3
    rw [show (0 : Int32) = nI 0 from rfl, e3]
    rfl
  · have ez : -lZ z = lN z.natAbs := by rw [lZ_N, lZ_neg]; congr 1; omega
    rw [if_neg (fun q => hz ((lZ_ge (by omega) (by omega) (by omega) (by omega)).mp q))]
    simp only [S.n hK (show 2 * p < 45 by omega), ez, e1, Option.bind_some, rdF hK S1 hp, S1.n hK (show 2 * p + 1 < 45 by omega), e2]
    rw [if_neg (fun q => hz ((lZ_ge (by omega) (by omega) (by omega) (by omega)).mp q)), g_if_pos (by simp)]
    rw [if_pos (by omega)] at e3
    rw [show (1 : Int32) = nI 1 from rfl, e3]
    rfl
end FR
