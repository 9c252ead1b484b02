/-! CommonDivisor.of -/
def g_W (L : g_L) : Prop := ∀ i, (32 ≤ i ∧ i ≤ 38) ∨ i = 42 ∨ i = 43 → 136 ≤ L.2.2 i
def WB : Nat := 2147483648 ^ 135
section OF
variable {L : g_L} {σ0 : g_S} {s : Nat → Nat} {lf : Nat → Nat → Nat} {v : Nat → Nat} {cd dv : Nat} {a b c d : Int}
theorem gw_135 {i n : Nat} {g : Nat → Nat} {x : Nat} (h : gw L i n g x) (hx : x < WB) : n ≤ 135 := gw_size h hx
theorem p_shortX (hL : g_ok L) (hc : g_not L cd) (h : GV L s lf v) {x y : Nat} (hx : x < 9223372036854775808) (hy : y ≤ x) : ∃ s' lf', BX0_finishShort_48 (mkN L (cdS L σ0 cd dv a b c d) s lf) cd (lN x) (lN y) = some (mkN L (cdS L σ0 cd dv a b c d) s' lf') ∧ GV L s' lf' (va_up (va_up v 37 x) 38 y) := by
  have h7 : (37 : Nat) < 45 := by decide
  have h8 : (38 : Nat) < 45 := by decide
  obtain ⟨s1, l1, e1, g1⟩ := q_becomeUnsigned (σ0 := cdS L σ0 cd dv a b c d) hL h7 h (n := x) (by omega)
  obtain ⟨s2, l2, e2, g2⟩ := q_becomeUnsigned (σ0 := cdS L σ0 cd dv a b c d) hL h8 g1 (n := y) (by omega)
  refine ⟨s2, l2, ?_, g2⟩
  unfold BX0_finishShort_48
  simp only [cd_gr hc, cd_le hc, Option.bind_some, n_o hL h7, n_o hL h8, e1, e2]
theorem p_shortL (hL : g_ok L) (hc : g_not L cd) (h : GV L s lf v) : ∀ (n t x y : Nat), 100 - t < n → t ≤ 100 → x < 9223372036854775808 → y ≤ x →
    ∃ s' lf' x' y', LX0_finishShort_19 n (mkN L (cdS L σ0 cd dv a b c d) s lf) cd (lN x) (lN y) (nI t) = some (mkN L (cdS L σ0 cd dv a b c d) s' lf') ∧ GV L s' lf' (va_up (va_up v 37 x') 38 y') ∧ Nat.gcd x' y' = Nat.gcd x y ∧ y' ≤ x' ∧ x' ≤ x ∧ x' * y' ≤ x * y ∧ (t < 100 → 0 < y → 2 * (x' * y') ≤ x * y) := by
  intro n
  induction n with
  | zero => intro t x y h; omega
  | succ n ih =>
    intro t x y hn ht hx hy
    obtain ⟨s1, l1, e1, g1⟩ := p_shortX (σ0 := σ0) (dv := dv) (a := a) (b := b) (c := c) (d := d) hL hc h hx hy
    unfold LX0_finishShort_19
    simp only [g_let]
    rw [show (0 : Int64) = lN 0 from rfl, show (100 : Int32) = nI 100 from rfl]
    by_cases h1 : t = 100
    · rw [if_pos (nI_le (by omega) (by omega))]
      exact ⟨s1, l1, x, y, e1, g1, rfl, hy, Nat.le_refl _, Nat.le_refl _, fun q => by omega⟩
    · rw [if_neg (nI_ge (by omega) (by omega))]
      by_cases h2 : y = 0
      · rw [if_pos ((lg_cmp_eq _ _).mpr (by rw [h2]))]
        exact ⟨s1, l1, x, y, e1, g1, rfl, hy, Nat.le_refl _, Nat.le_refl _, fun _ q => by omega⟩
      · have hne : ¬ lN y = lN 0 := fun q => h2 ((lZ_inj (by omega) (by omega) (by omega) (by omega)).mp (by rw [← lZ_N, q]; rfl) |> Int.ofNat_inj.mp)
        rw [if_neg (fun q => hne ((lg_cmp_eq _ _).mp q)), g_if_pos hne]
        unfold g_lrem
        rw [pk_lRem (by omega) (by omega) (by omega), nI_1]
        have hm : x % y < y := Nat.mod_lt _ (by omega)
        obtain ⟨s', lf', x', y', e3, g3, f1, f2, f3, f4, f5⟩ := ih (t + 1) y (x % y) (by omega) (by omega) (by omega) (by omega)
        refine ⟨s', lf', x', y', e3, g3, by rw [f1, gcd_step], f2, by omega, ?_, fun _ _ => ?_⟩
        · have := prod_le hy (by omega)
          omega
        · have := prod_half hy (by omega)
          omega
theorem q_short (hL : g_ok L) (hc : g_not L cd) (h : GV L s lf v) (h2 : s 37 ≤ 2) (hle : v 38 ≤ v 37) (h0 : 0 < v 38) : ∃ s' lf' x' y', fX0_finishShort (mkN L (cdS L σ0 cd dv a b c d) s lf) cd = some (mkN L (cdS L σ0 cd dv a b c d) s' lf') ∧ GV L s' lf' (va_up (va_up v 37 x') 38 y') ∧ Nat.gcd x' y' = Nat.gcd (v 37) (v 38) ∧ y' ≤ x' ∧ x' ≤ v 37 ∧ 2 * (x' * y') ≤ v 37 * v 38 := by
  have h7 : (37 : Nat) < 45 := by decide
  have h8 : (38 : Nat) < 45 := by decide
  have hsb : s 38 ≤ s 37 := gw_size (h 38 h8) (Nat.lt_of_le_of_lt hle (gw_val (h 37 h7)))
  have hv : v 37 < 2147483648 ^ 2 := Nat.lt_of_lt_of_le (gw_val (h 37 h7)) (Nat.pow_le_pow_right (by decide) h2)
  obtain ⟨s', lf', x', y', e3, g3, f1, f2, f3, f4, f5⟩ := p_shortL (σ0 := σ0) (dv := dv) (a := a) (b := b) (c := c) (d := d) hL hc h g_fuel 0 (v 37) (v 38) (fuel_ge (by omega)) (by omega) (by omega) hle
  refine ⟨s', lf', x', y', ?_, g3, f1, f2, f3, f5 (by omega) h0⟩
  rw [← e3]
  unfold fX0_finishShort
  simp only [cd_gr hc, cd_le hc, Option.bind_some, n_o hL h7, n_o hL h8, p_toLong hL h7 h h2, p_toLong hL h8 h (show s 38 ≤ 2 by omega)]
  rfl
theorem two_pow_half {p q t : Nat} (h1 : 2 * p ≤ q) (h2 : q < 2 ^ t) (h0 : 0 < q) : p < 2 ^ (t - 1) := by
  cases t with
  | zero => simp at h2; omega
  | succ t =>
    rw [Nat.pow_succ] at h2
    rw [Nat.add_sub_cancel]
    omega
theorem p_ofX (hc : g_not L cd) : BX0_of_145 (mkN L (cdS L σ0 cd dv a b c d) s lf) cd = some (L.1 37, mkN L (cdS L σ0 cd dv a b c d) s lf) := by
  unfold BX0_of_145
  simp only [cd_gr hc, Option.bind_some]
theorem p_ofL (hL : g_ok L) (hW : g_W L) (hD : dvOK L σ0 dv) (hc : g_not L cd) (hne : dv ≠ cd) : ∀ (n t : Nat) (s : Nat → Nat) (lf : Nat → Nat → Nat) (v : Nat → Nat) (a b c d : Int), 8370 - t < n → t ≤ 8370 → GV L s lf v → v 38 ≤ v 37 → v 37 < WB → v 37 * v 38 < 2 ^ (8370 - t) →
    ∃ s' lf' v' a' b' c' d', LX0_of_49 n (mkN L (cdS L σ0 cd dv a b c d) s lf) cd (nI t) = some (L.1 37, mkN L (cdS L σ0 cd dv a' b' c' d') s' lf') ∧ GV L s' lf' v' ∧ v' 37 = Nat.gcd (v 37) (v 38) ∧ ∀ i, i < 34 ∨ 38 < i → v' i = v i := by
  have h7 : (37 : Nat) < 45 := by decide
  have h8 : (38 : Nat) < 45 := by decide
  have h5 : (35 : Nat) < 45 := by decide
  have w7 := hW 37 (by omega)
  have w8 := hW 38 (by omega)
  have hr := (hL.2.2.2 37 h7).2
  intro n
  induction n with
  | zero => intro t s lf v a b c d h; omega
  | succ n ih =>
    intro t s lf v a b c d hn ht h hle hB hp
    have hs7 := gw_135 (h 37 h7) hB
    have hsb : s 38 ≤ s 37 := gw_size (h 38 h8) (Nat.lt_of_le_of_lt hle (gw_val (h 37 h7)))
    obtain ⟨b1, b2, b3, b4⟩ := h 38 h8
    have hz : v 38 = 0 ↔ s 38 = 0 := by rw [← b4]; exact wc_zero (by decide) b3
    unfold LX0_of_49
    rw [if_neg (by rw [show (10000 : Int32) = nI 10000 from rfl]; exact nI_ge (by omega) (by omega))]
    simp only [cd_le hc, cd_gr hc, Option.bind_some, n_o hL h8, p_isZero hL h8 b1, n_size hL h7]
    by_cases h0 : s 38 = 0
    · rw [if_neg (by rw [if_pos h0]; decide), p_ofX hc]
      exact ⟨s, lf, v, a, b, c, d, rfl, h, by rw [hz.mpr h0, Nat.gcd_zero_right], fun _ _ => rfl⟩
    · have hv0 : 0 < v 38 := Nat.pos_of_ne_zero (fun q => h0 (hz.mp q))
      have hv7 : 0 < v 37 := by omega
      have hpp : 0 < v 37 * v 38 := Nat.mul_pos hv7 hv0
      have ht2 : t < 8370 := by
        rcases Nat.lt_or_ge t 8370 with q | q
        · exact q
        · rw [show 8370 - t = 0 by omega] at hp
          omega
      have next : ∀ (s1 : Nat → Nat) (l1 : Nat → Nat → Nat) (v1 : Nat → Nat) (a1 b1 c1 d1 : Int), GV L s1 l1 v1 → v1 38 ≤ v1 37 → v1 37 ≤ v 37 → 2 * (v1 37 * v1 38) ≤ v 37 * v 38 → Nat.gcd (v1 37) (v1 38) = Nat.gcd (v 37) (v 38) → (∀ i, i < 34 ∨ 38 < i → v1 i = v i) → ∃ s' lf' v' a' b' c' d', BX0_of_139 (LX0_of_49 n) (mkN L (cdS L σ0 cd dv a1 b1 c1 d1) s1 l1) cd (nI t) = some (L.1 37, mkN L (cdS L σ0 cd dv a' b' c' d') s' lf') ∧ GV L s' lf' v' ∧ v' 37 = Nat.gcd (v 37) (v 38) ∧ ∀ i, i < 34 ∨ 38 < i → v' i = v i := by
        intro s1 l1 v1 a1 b1 c1 d1 q1 q2 q3 q4 q5 q6
        have q7 := two_pow_half q4 hp hpp
        rw [show 8370 - t - 1 = 8370 - (t + 1) by omega] at q7
        obtain ⟨s', lf', v', a', b', c', d', e1, e2, e3, e4⟩ := ih (t + 1) s1 l1 v1 a1 b1 c1 d1 (by omega) (by omega) q1 q2 (by omega) q7
        refine ⟨s', lf', v', a', b', c', d', ?_, e2, by rw [e3, q5], fun i hi => by rw [e4 i hi, q6 i hi]⟩
        unfold BX0_of_139
        simp only [g_let]
        rw [nI_1]
        exact e1
      rw [if_pos (by rw [if_neg h0])]
      rw [show (2 : Int32) = nI 2 from rfl]
      by_cases h2 : 2 < s 37
      · rw [if_pos (nI_lt h2 (by omega))]
        obtain ⟨a', b', c', d', XK, YK, e1, e2⟩ := p_findPass (σ0 := σ0) (dv := dv) (a := a) (b := b) (c := c) (d := d) hL hc h h2 hle
        simp only [cd_o hc, Option.bind_some, e1]
        by_cases hb' : b' = 0
        · rw [if_pos (by rw [if_pos hb'])]
          obtain ⟨s1, l1, v1, f1, f2, f3, f4, f5⟩ := q_divide (σ0 := cdS L σ0 cd dv a' b' c' d') hL (cd_dvOK hD hne) (hW 34 (by omega)) (hW 35 (by omega)) (hW 36 (by omega)) h7 h8 (by decide) (by decide) (by decide) (by decide) (by decide) (by decide) h hs7 (by omega)
          have g8 : v1 38 = v 38 := f5 38 (by decide) (by decide) (by decide)
          have lt8 : v 38 < WB := by omega
          obtain ⟨s2, l2, f6, f7⟩ := q_become (σ0 := cdS L σ0 cd dv a' b' c' d') hL h7 h8 f2 (by have := gw_135 (f2 38 h8) (by rw [g8]; exact lt8); omega)
          have g5 : va_up v1 37 (v1 38) 35 = v 37 % v 38 := by rw [va_up_ne _ _ (by decide), f4]
          have lt5 : v 37 % v 38 < v 38 := Nat.mod_lt _ hv0
          obtain ⟨s3, l3, f8, f9⟩ := q_become (σ0 := cdS L σ0 cd dv a' b' c' d') hL h8 h5 f7 (by have := gw_135 (f7 35 h5) (by rw [g5]; omega); omega)
          rw [g5, g8] at f9
          have k7 : va_up (va_up v1 37 (v 38)) 38 (v 37 % v 38) 37 = v 38 := by rw [va_up_ne _ _ (by decide), va_up_self]
          have k8 : va_up (va_up v1 37 (v 38)) 38 (v 37 % v 38) 38 = v 37 % v 38 := va_up_self _ _ _
          simp only [cd_dv hc, cd_gr hc, cd_le hc, Option.bind_some, dv_o (cd_dvOK hD hne), f1, n_o hL h7, n_o hL h8, f6, dv_r (cd_dvOK hD hne), f8]
          exact next s3 l3 _ a' b' c' d' f9 (by rw [k7, k8]; omega) (by rw [k7]; exact hle) (by rw [k7, k8]; exact prod_half hle hv0) (by rw [k7, k8, gcd_step]) (fun i hi => by rw [va_up_ne _ _ (by omega), va_up_ne _ _ (by omega), f5 i (by omega) (by omega) (by omega)])
        · rw [if_neg (by rw [if_neg hb']; decide)]
          obtain ⟨s1, l1, f1, f2⟩ := q_doPass (σ0 := σ0) (dv := dv) hL hc h e2 hle (by omega)
          obtain ⟨-, -, -, -, p4, p5, p6, p7⟩ := e2
          simp only [cd_o hc, Option.bind_some, f1]
          have k7 : va_up (va_up v 37 XK) 38 YK 37 = XK := by rw [va_up_ne _ _ (by decide), va_up_self]
          have k8 : va_up (va_up v 37 XK) 38 YK 38 = YK := va_up_self _ _ _
          exact next s1 l1 _ a' b' c' d' f2 (by rw [k7, k8]; exact p4) (by rw [k7]; exact p5) (by rw [k7, k8]; rcases p7 with q | q; exact absurd q.1 hb'; exact q) (by rw [k7, k8]; exact p6) (fun i hi => by rw [va_up_ne _ _ (by omega), va_up_ne _ _ (by omega)])
      · rw [if_neg (nI_nlt (by omega) (by omega))]
        obtain ⟨s1, l1, x', y', f1, f2, f3, f4, f5, f6⟩ := q_short (σ0 := σ0) (dv := dv) (a := a) (b := b) (c := c) (d := d) hL hc h (by omega) hle hv0
        simp only [cd_o hc, Option.bind_some, f1]
        have k7 : va_up (va_up v 37 x') 38 y' 37 = x' := by rw [va_up_ne _ _ (by decide), va_up_self]
        have k8 : va_up (va_up v 37 x') 38 y' 38 = y' := va_up_self _ _ _
        exact next s1 l1 _ a b c d f2 (by rw [k7, k8]; exact f4) (by rw [k7]; exact f5) (by rw [k7, k8]; exact f6) (by rw [k7, k8]; exact f3) (fun i hi => by rw [va_up_ne _ _ (by omega), va_up_ne _ _ (by omega)])
theorem WB_sq {x y : Nat} (hx : x < WB) (hy : y < WB) : x * y < 2 ^ 8370 := by
  have h1 : x * y < WB * WB := Nat.mul_lt_mul'' hx hy
  have h2 : WB * WB = 2 ^ 8370 := by
    unfold WB
    rw [lb_pow, ← Nat.pow_add]
  omega
theorem q_of0 (hL : g_ok L) (hW : g_W L) (hD : dvOK L σ0 dv) (hc : g_not L cd) (hne : dv ≠ cd) {i j : Nat} (hi : i < 45) (hj : j < 45) (i7 : i ≠ 37) (j7 : j ≠ 37) (i8 : i ≠ 38) (j8 : j ≠ 38) (h : GV L s lf v) (hle : v j ≤ v i) (hB : v i < WB) (x1 x2 : Nat) :
    ∃ s' lf' v' a' b' c' d', ((fX3_become (mkN L (cdS L σ0 cd dv a b c d) s lf) (L.1 37) (L.1 i)).bind fun r7 => (g_fr r7 0 cd 2).bind fun v8 => BX0_of_43 r7 cd v8 (L.1 j)) = some (L.1 37, mkN L (cdS L σ0 cd dv a' b' c' d') s' lf') ∧ GV L s' lf' v' ∧ v' 37 = Nat.gcd (v i) (v j) ∧ ∀ k, k < 34 ∨ 38 < k → v' k = v k := by
  have h7 : (37 : Nat) < 45 := by decide
  have h8 : (38 : Nat) < 45 := by decide
  have w7 := hW 37 (by omega)
  have w8 := hW 38 (by omega)
  have si := gw_135 (h i hi) hB
  have sj := gw_135 (h j hj) (by omega)
  obtain ⟨s1, l1, e1, g1⟩ := q_become (σ0 := cdS L σ0 cd dv a b c d) hL h7 hi h (by omega)
  have gj : va_up v 37 (v i) j = v j := va_up_ne _ _ j7
  obtain ⟨s2, l2, e2, g2⟩ := q_become (σ0 := cdS L σ0 cd dv a b c d) hL h8 hj g1 (by have := gw_135 (g1 j hj) (by rw [gj]; omega); omega)
  rw [gj] at g2
  have k7 : va_up (va_up v 37 (v i)) 38 (v j) 37 = v i := by rw [va_up_ne _ _ (by decide), va_up_self]
  have k8 : va_up (va_up v 37 (v i)) 38 (v j) 38 = v j := va_up_self _ _ _
  obtain ⟨s', lf', v', a', b', c', d', e3, e4, e5, e6⟩ := p_ofL hL hW hD hc hne g_fuel 0 s2 l2 _ a b c d (fuel_ge (by omega)) (by omega) g2 (by rw [k7, k8]; exact hle) (by rw [k7]; exact hB) (by rw [k7, k8]; exact WB_sq hB (by omega))
  rw [k7, k8] at e5
  refine ⟨s', lf', v', a', b', c', d', ?_, e4, e5, fun k hk => by rw [e6 k hk, va_up_ne _ _ (by omega), va_up_ne _ _ (by omega)]⟩
  rw [e1]
  simp only [cd_le hc, Option.bind_some, BX0_of_43, n_o hL h8, e2]
  exact e3
theorem q_cd (hL : g_ok L) (hW : g_W L) (hD : dvOK L σ0 dv) (hc : g_not L cd) (hne : dv ≠ cd) {i j : Nat} (hi : i < 45) (hj : j < 45) (i7 : i ≠ 37) (j7 : j ≠ 37) (i8 : i ≠ 38) (j8 : j ≠ 38) (h : GV L s lf v) (hBi : v i < WB) (hBj : v j < WB) :
    ∃ s' lf' v' a' b' c' d', fX0_of (mkN L (cdS L σ0 cd dv a b c d) s lf) cd (L.1 i) (L.1 j) = some (L.1 37, mkN L (cdS L σ0 cd dv a' b' c' d') s' lf') ∧ GV L s' lf' v' ∧ v' 37 = Nat.gcd (v i) (v j) ∧ ∀ k, k < 34 ∨ 38 < k → v' k = v k := by
  have h7 : (37 : Nat) < 45 := by decide
  unfold fX0_of
  simp only [n_o hL hi, Option.bind_some, p_order hL hi hj h]
  by_cases hlt : v i < v j
  · obtain ⟨s', lf', v', a', b', c', d', e1, e2, e3, e4⟩ := q_of0 (σ0 := σ0) (dv := dv) (a := a) (b := b) (c := c) (d := d) hL hW hD hc hne hj hi j7 i7 j8 i8 h (by omega) hBj 0 0
    refine ⟨s', lf', v', a', b', c', d', ?_, e2, by rw [e3, Nat.gcd_comm], e4⟩
    rw [if_pos ((cmpI_neg _ _).mpr hlt), ← e1]
    unfold BX0_of_13 BX0_of_27
    simp only [cd_gr hc, Option.bind_some, n_o hL h7]
    rfl
  · obtain ⟨s', lf', v', a', b', c', d', e1, e2, e3, e4⟩ := q_of0 (σ0 := σ0) (dv := dv) (a := a) (b := b) (c := c) (d := d) hL hW hD hc hne hi hj i7 j7 i8 j8 h (by omega) hBi 0 0
    refine ⟨s', lf', v', a', b', c', d', ?_, e2, e3, e4⟩
    rw [if_neg (fun q => hlt ((cmpI_neg _ _).mp q)), ← e1]
    unfold BX0_of_13 BX0_of_27
    simp only [cd_gr hc, Option.bind_some, n_o hL h7]
    rfl
end OF
