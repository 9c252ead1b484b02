/-! the reference: common divisors, least terms, a place's new number -/
/-- the desk's state, as the reference holds it -/
def MV (z : g_Z) (v : Nat → Nat) (m : g_M) : Prop := (∀ p, p < 16 → m.1 p = (v (2 * p), v (2 * p + 1), z.2.1 p) ∧ fOK (m.1 p)) ∧ (z.2.2.2.1 = m.2.1.1 ∧ m.2.1.1 ≤ 1400 ∧ ∀ k, k < m.2.1.1 → z.2.2.1 k = m.2.1.2 k ∧ m.2.1.2 k < 256) ∧ (z.2.2.2.2.2 = m.2.2.1 ∧ m.2.2.1 ≤ 4098 ∧ ∀ k, k < m.2.2.1 → z.2.2.2.2.1 k = m.2.2.2 k ∧ m.2.2.2 k < 128) ∧ v 42 = 1
def MS (Q : Nat → Nat) (σ0 σ : g_S) (m : g_M) : Prop := ∃ z v, MSt Q σ0 σ z v ∧ MV z v m
theorem MV.frame {z : g_Z} {v v' : Nat → Nat} {m : g_M} (h : MV z v m) (h1 : ∀ i, i < 32 → v' i = v i) (h2 : v' 42 = v 42) : MV z v' m := by
  obtain ⟨a1, a2, a3, a4⟩ := h
  refine ⟨fun p hp => ?_, a2, a3, by rw [h2, a4]⟩
  rw [h1 _ (by omega), h1 _ (by omega)]
  exact a1 p hp
theorem MV.fr {z : g_Z} {v : Nat → Nat} {m : g_M} (h : MV z v m) {p : Nat} (hp : p < 16) : fOK (v (2 * p), v (2 * p + 1), z.2.1 p) ∧ (v (2 * p), v (2 * p + 1), z.2.1 p) = m.1 p := by
  obtain ⟨h1, h2⟩ := h.1 p hp
  rw [h1] at h2
  exact ⟨h2, h1.symm⟩
theorem TOP_262 {x : Nat} (h : x < TOP) : x < 65536 ^ 262 := by
  rw [TOP_128] at h
  exact Nat.lt_of_lt_of_le h (Nat.pow_le_pow_right (by decide) (by decide))
theorem TOP_M262 {x y : Nat} (hx : x < TOP) (hy : y < TOP) : x * y < 65536 ^ 261 := by
  have h1 : x * y < TOP * TOP := Nat.mul_lt_mul'' hx hy
  have h2 : TOP * TOP ≤ 65536 ^ 261 := by
    rw [TOP_128, ← Nat.pow_add]
    exact Nat.pow_le_pow_right (by decide) (by decide)
  omega
theorem P262 {x : Nat} (h : x < 65536 ^ 261) : x < 65536 ^ 262 := Nat.lt_of_lt_of_le h (Nat.pow_le_pow_right (by decide) (by decide))
theorem P262s {x y : Nat} (hx : x < 65536 ^ 261) (hy : y < 65536 ^ 261) : x + y < 65536 ^ 262 := by
  have : (65536 : Nat) ^ 262 = 65536 ^ 261 * 65536 := Nat.pow_succ _ _
  generalize (65536 : Nat) ^ 261 = P at *
  omega
section MJ
variable {Q : Nat → Nat} {σ0 : g_S} {z : g_Z} {v : Nat → Nat} {m : g_M}
theorem v_commonL (hQ : kM Q) : ∀ (n t : Nat) (σ : g_S) (v : Nat → Nat), 8384 - t < n → t ≤ 8384 → MSt Q σ0 σ z v → v 38 ≤ v 37 → v 37 < 65536 ^ 262 → v 37 * v 38 < 2 ^ (8384 - t) → ∃ σ' v', LX8_common_14 n σ (Q 0) = some σ' ∧ MSt Q σ0 σ' z v' ∧ v' 39 = Nat.gcd (v 37) (v 38) ∧ ∀ i, i < 35 ∨ 39 < i → v' i = v i := by
  intro n
  induction n with
  | zero => intro t σ v h; omega
  | succ n ih =>
    intro t σ v hn ht M hle hB hp
    unfold LX8_common_14
    have e0 := v_isZero hQ M (x := 38) (by decide) (by decide)
    rw [show (38 : Int32) = nI 38 from rfl, show (37 : Int32) = nI 37 from rfl, show (36 : Int32) = nI 36 from rfl, show (39 : Int32) = nI 39 from rfl]
    simp only [rS hQ M, e0, Option.bind_some]
    by_cases h0 : v 38 = 0
    · rw [if_neg (by rw [if_pos h0]; decide)]
      obtain ⟨σ1, e1, M1⟩ := v_copy hQ M (x := 37) (w := 39) (by decide) (by decide) (by decide) (by decide)
      refine ⟨σ1, _, ?_, M1, ?_, fun i hi => va_up_ne _ _ (by omega)⟩
      · rw [e1]; rfl
      · rw [va_up_self, h0, Nat.gcd_zero_right]
    · rw [if_pos (by rw [if_neg h0])]
      have hv0 : 0 < v 38 := Nat.pos_of_ne_zero h0
      have hv7 : 0 < v 37 := by omega
      have hpp : 0 < v 37 * v 38 := Nat.mul_pos hv7 hv0
      have ht2 : t < 8384 := by
        rcases Nat.lt_or_ge t 8384 with q | q
        · exact q
        · rw [show 8384 - t = 0 by omega] at hp
          omega
      obtain ⟨σ1, v1, e1, M1, g1, g2, f1⟩ := v_divides hQ M (x := 37) (y := 38) (by decide) (by decide) (by decide) (by decide) hB h0
      obtain ⟨σ2, e2, M2⟩ := v_copy hQ M1 (x := 38) (w := 37) (by decide) (by decide) (by decide) (by decide)
      obtain ⟨σ3, e3, M3⟩ := v_copy hQ M2 (x := 36) (w := 38) (by decide) (by decide) (by decide) (by decide)
      rw [f1 38 (by decide) (by decide), va_up_ne _ _ (show (36 : Nat) ≠ 37 by decide), g2] at M3
      have k7 : va_up (va_up v1 37 (v 38)) 38 (v 37 % v 38) 37 = v 38 := by rw [va_up_ne _ _ (by decide), va_up_self]
      have k8 : va_up (va_up v1 37 (v 38)) 38 (v 37 % v 38) 38 = v 37 % v 38 := va_up_self _ _ _
      have hml : v 37 % v 38 < v 38 := Nat.mod_lt _ hv0
      have q7 := two_pow_half (prod_half hle hv0) hp hpp
      rw [show 8384 - t - 1 = 8384 - (t + 1) by omega] at q7
      simp only [e1, Option.bind_some, rS hQ M1, e2, rS hQ M2, e3]
      obtain ⟨σ', v', f2, f3, f4, f5⟩ := ih (t + 1) σ3 _ (by omega) (by omega) M3 (by rw [k7, k8]; omega) (by rw [k7]; omega) (by rw [k7, k8]; exact q7)
      refine ⟨σ', v', f2, f3, by rw [f4, k7, k8, gcd_step], fun i hi => by rw [f5 i hi, va_up_ne _ _ (by omega), va_up_ne _ _ (by omega), f1 i (by omega) (by omega)]⟩
theorem M_sq {x y : Nat} (hx : x < 65536 ^ 262) (hy : y < 65536 ^ 262) : x * y < 2 ^ 8384 := by
  have h1 : x * y < 65536 ^ 262 * 65536 ^ 262 := Nat.mul_lt_mul'' hx hy
  have h2 : (65536 : Nat) ^ 262 * 65536 ^ 262 = 2 ^ 8384 := by
    rw [← Nat.pow_add, show (65536 : Nat) = 2 ^ 16 from rfl, ← Nat.pow_mul]
  omega
theorem v_common (hQ : kM Q) {σ : g_S} (M : MSt Q σ0 σ z v) {x y : Nat} (hx : x < 44) (hy : y < 44) (x4 : x < 35 ∨ 41 < x) (y4 : y < 35 ∨ 41 < y) (lx : v x < 65536 ^ 262) (ly : v y < 65536 ^ 262) : ∃ σ' v', fX8_common σ (Q 0) (nI x) (nI y) = some σ' ∧ MSt Q σ0 σ' z v' ∧ v' 39 = Nat.gcd (v x) (v y) ∧ ∀ i, i < 35 ∨ 39 < i → v' i = v i := by
  obtain ⟨σ1, e1, M1⟩ := v_copy hQ M (x := x) (w := 37) hx (by decide) (by omega) (by omega)
  obtain ⟨σ2, e2, M2⟩ := v_copy hQ M1 (x := y) (w := 38) hy (by decide) (by omega) (by omega)
  rw [va_up_ne _ _ (show y ≠ 37 by omega)] at M2
  have k7 : va_up (va_up v 37 (v x)) 38 (v y) 37 = v x := by rw [va_up_ne _ _ (by decide), va_up_self]
  have k8 : va_up (va_up v 37 (v x)) 38 (v y) 38 = v y := va_up_self _ _ _
  have hpow := M_sq lx ly
  unfold fX8_common
  rw [show (37 : Int32) = nI 37 from rfl, show (38 : Int32) = nI 38 from rfl]
  simp only [rS hQ M, e1, Option.bind_some, rS hQ M1, e2]
  by_cases hle : v y ≤ v x
  · obtain ⟨σ', v', f2, f3, f4, f5⟩ := v_commonL (σ0 := σ0) (z := z) hQ g_fuel 0 σ2 _ (fuel_ge (by omega)) (by omega) M2 (by rw [k7, k8]; exact hle) (by rw [k7]; exact lx) (by rw [k7, k8]; exact hpow)
    exact ⟨σ', v', f2, f3, by rw [f4, k7, k8], fun i hi => by rw [f5 i hi, va_up_ne _ _ (by omega), va_up_ne _ _ (by omega)]⟩
  · -- the first step turns the two
    obtain ⟨f, hfu⟩ : ∃ f, g_fuel = f + 1 := ⟨g_fuel - 1, by have := g_fuel_ge; omega⟩
    have hfu2 := g_fuel_ge
    rw [hfu]
    unfold LX8_common_14
    have e0 := v_isZero hQ M2 (x := 38) (by decide) (by decide)
    rw [k8] at e0
    rw [show (38 : Int32) = nI 38 from rfl, show (37 : Int32) = nI 37 from rfl, show (36 : Int32) = nI 36 from rfl, show (39 : Int32) = nI 39 from rfl]
    simp only [rS hQ M2, e0, Option.bind_some]
    rw [if_pos (by rw [if_neg (by omega)])]
    obtain ⟨σ3, v3, e3, M3, g1, g2, f1⟩ := v_divides hQ M2 (x := 37) (y := 38) (by decide) (by decide) (by decide) (by decide) (by rw [k7]; exact lx) (by rw [k8]; omega)
    rw [k7, k8, Nat.mod_eq_of_lt (by omega)] at g2
    obtain ⟨σ4, e4, M4⟩ := v_copy hQ M3 (x := 38) (w := 37) (by decide) (by decide) (by decide) (by decide)
    obtain ⟨σ5, e5, M5⟩ := v_copy hQ M4 (x := 36) (w := 38) (by decide) (by decide) (by decide) (by decide)
    rw [f1 38 (by decide) (by decide), va_up_ne _ _ (show (36 : Nat) ≠ 37 by decide), g2, k8] at M5
    simp only [e3, Option.bind_some, rS hQ M3, e4, rS hQ M4, e5]
    have j7 : va_up (va_up v3 37 (v y)) 38 (v x) 37 = v y := by rw [va_up_ne _ _ (by decide), va_up_self]
    have j8 : va_up (va_up v3 37 (v y)) 38 (v x) 38 = v x := va_up_self _ _ _
    obtain ⟨σ', v', f2, f3, f4, f5⟩ := v_commonL (σ0 := σ0) (z := z) hQ f 0 σ5 _ (by omega) (by omega) M5 (by rw [j7, j8]; omega) (by rw [j7]; exact ly) (by rw [j7, j8, Nat.mul_comm]; exact hpow)
    exact ⟨σ', v', f2, f3, by rw [f4, j7, j8, Nat.gcd_comm], fun i hi => by rw [f5 i hi, va_up_ne _ _ (by omega), va_up_ne _ _ (by omega), f1 i (by omega) (by omega), va_up_ne _ _ (by omega), va_up_ne _ _ (by omega)]⟩
theorem v_least (hQ : kM Q) {σ : g_S} (M : MSt Q σ0 σ z v) (l1 : v 32 < 65536 ^ 262) (l2 : v 33 < 65536 ^ 262) (p2 : 0 < v 33) : ∃ σ' v', fX8_least σ (Q 0) = some σ' ∧ MSt Q σ0 σ' z v' ∧ v' 32 = v 32 / Nat.gcd (v 32) (v 33) ∧ v' 33 = v 33 / Nat.gcd (v 32) (v 33) ∧ (∀ i, i < 32 → v' i = v i) ∧ v' 42 = v 42 := by
  obtain ⟨σ1, v1, e1, M1, g1, f1⟩ := v_common hQ M (x := 32) (y := 33) (by decide) (by decide) (by omega) (by omega) l1 l2
  have gpos := Nat.gcd_pos_of_pos_right (v 32) p2
  have k32 := f1 32 (by omega)
  have k33 := f1 33 (by omega)
  generalize eg : Nat.gcd (v 32) (v 33) = g at *
  have e0 := v_isOne hQ M1 (x := 39) (by decide) (by decide)
  rw [g1] at e0
  unfold fX8_least BX8_least_57
  rw [show (32 : Int32) = nI 32 from rfl, show (33 : Int32) = nI 33 from rfl, show (39 : Int32) = nI 39 from rfl, show (35 : Int32) = nI 35 from rfl, show (43 : Int32) = nI 43 from rfl]
  simp only [rS hQ M, e1, Option.bind_some, rS hQ M1, e0]
  by_cases h1 : g = 1
  · rw [if_neg (by rw [if_pos h1]; decide)]
    exact ⟨σ1, v1, rfl, M1, by rw [h1, Nat.div_one]; exact k32, by rw [h1, Nat.div_one]; exact k33, fun i hi => f1 i (by omega), f1 42 (by omega)⟩
  · rw [if_pos (by rw [if_neg h1])]
    obtain ⟨σ2, v2, e2, M2, g2, -, f2⟩ := v_divides hQ M1 (x := 32) (y := 39) (by decide) (by decide) (by decide) (by decide) (by rw [k32]; exact l1) (by rw [g1]; omega)
    rw [k32, g1] at g2
    obtain ⟨σ3, e3, M3⟩ := v_copy hQ M2 (x := 35) (w := 43) (by decide) (by decide) (by decide) (by decide)
    rw [g2] at M3
    have m33 : va_up v2 43 (v 32 / g) 33 = v 33 := by rw [va_up_ne _ _ (by decide), f2 _ (by decide) (by decide), k33]
    have m39 : va_up v2 43 (v 32 / g) 39 = g := by rw [va_up_ne _ _ (by decide), f2 _ (by decide) (by decide), g1]
    obtain ⟨σ4, v4, e4, M4, g4, -, f4⟩ := v_divides hQ M3 (x := 33) (y := 39) (by decide) (by decide) (by decide) (by decide) (by rw [m33]; exact l2) (by rw [m39]; omega)
    rw [m33, m39] at g4
    obtain ⟨σ5, e5, M5⟩ := v_copy hQ M4 (x := 35) (w := 33) (by decide) (by decide) (by decide) (by decide)
    rw [g4] at M5
    obtain ⟨σ6, e6, M6⟩ := v_copy hQ M5 (x := 43) (w := 32) (by decide) (by decide) (by decide) (by decide)
    rw [va_up_ne _ _ (show (43 : Nat) ≠ 33 by decide), f4 _ (by decide) (by decide), va_up_self] at M6
    refine ⟨σ6, _, ?_, M6, va_up_self _ _ _, ?_, fun i hi => ?_, ?_⟩
    · simp only [e2, Option.bind_some, rS hQ M2, e3, rS hQ M3, e4, rS hQ M4, e5, rS hQ M5, e6]
    · rw [va_up_ne _ _ (by decide), va_up_self]
    · rw [va_up_ne _ _ (by omega), va_up_ne _ _ (by omega), f4 _ (by omega) (by omega), va_up_ne _ _ (by omega), f2 _ (by omega) (by omega), f1 _ (by omega)]
    · rw [va_up_ne _ _ (by omega), va_up_ne _ _ (by omega), f4 _ (by omega) (by omega), va_up_ne _ _ (by omega), f2 _ (by omega) (by omega), f1 _ (by omega)]
theorem nar_b : ∀ c, c ≤ 1 → vp_nar .boolean (nI c) = nI c := by decide +kernel
theorem v_holds (hQ : kM Q) {σ : g_S} (M : MSt Q σ0 σ z v) (V : MV z v m) {p nb : Nat} (hp : p < 16) (hnb : nb ≤ 1) (hok : v 32 < TOP ∧ v 33 < TOP → fOK (v 32, v 33, sz (v 32) nb)) : ∃ σ', fX8_holds σ (Q 0) (nI p) (nI nb) = some (if v 32 < TOP ∧ v 33 < TOP then 0 else -3, σ') ∧ MS Q σ0 σ' (if v 32 < TOP ∧ v 33 < TOP then (va_up m.1 p (v 32, v 33, sz (v 32) nb), m.2) else m) := by
  unfold fX8_holds BX8_holds_18 BX8_holds_63 BX8_holds_64
  have e1 := v_tooG hQ M (x := 32) (by decide) (by decide)
  have e2 := v_tooG hQ M (x := 33) (by decide) (by decide)
  rw [show (32 : Int32) = nI 32 from rfl, show (33 : Int32) = nI 33 from rfl]
  simp only [rS hQ M, e1, Option.bind_some]
  by_cases h1 : v 32 < TOP
  · rw [if_pos (by rw [if_pos h1])]
    simp only [rS hQ M, e2, Option.bind_some]
    by_cases h2 : v 33 < TOP
    · rw [if_pos (by rw [if_pos h2]), if_pos ⟨h1, h2⟩, if_pos ⟨h1, h2⟩]
      obtain ⟨σ1, e3, M1⟩ := v_copy hQ M (x := 32) (w := 2 * p) (by decide) (by omega) (by omega) (by decide)
      obtain ⟨σ2, e4, M2⟩ := v_copy hQ M1 (x := 33) (w := 2 * p + 1) (by decide) (by omega) (by omega) (by decide)
      rw [va_up_ne _ _ (show 33 ≠ 2 * p by omega)] at M2
      have i1 : (2 : Int32) * nI p = nI (2 * p) := by rw [show (2 : Int32) = nI 2 from rfl, pk_mul]
      rw [i1, nI_1]
      simp only [rS hQ M, e3, Option.bind_some, rS hQ M1, e4, rS hQ M2]
      have k32 : va_up (va_up v (2 * p) (v 32)) (2 * p + 1) (v 33) 32 = v 32 := by rw [va_up_ne _ _ (by omega), va_up_ne _ _ (by omega)]
      have e0 := v_isZero hQ M2 (x := 32) (by decide) (by decide)
      rw [k32] at e0
      have fin : ∀ c, c ≤ 1 → c = sz (v 32) nb → ∃ σ', ((g_si σ2 5 (Q 3) (nI p) (vp_nar .boolean (nI c))).bind fun σ13 => some (0, σ13)) = some ((0 : Int32), σ') ∧ MS Q σ0 σ' (va_up m.1 p (v 32, v 33, sz (v 32) nb), m.2) := by
        intro c hc hcs
        obtain ⟨s2, l2, rfl, G2⟩ := M2
        rw [nar_b c hc, m_setb hQ hp]
        refine ⟨_, rfl, _, _, ⟨_, _, rfl, G2⟩, ?_⟩
        obtain ⟨a1, a2, a3, a4⟩ := V
        refine ⟨fun q hq => ?_, a2, a3, by rw [va_up_ne _ _ (by omega), va_up_ne _ _ (by omega)]; exact a4⟩
        by_cases e : q = p
        · subst e
          simp only [va_up_self]
          refine ⟨?_, hok ⟨h1, h2⟩⟩
          rw [va_up_ne _ _ (show 2 * q ≠ 2 * q + 1 by omega), va_up_self, hcs]
        · simp only [va_up_ne _ _ e]
          rw [va_up_ne _ _ (show 2 * q ≠ 2 * p + 1 by omega), va_up_ne _ _ (show 2 * q ≠ 2 * p by omega), va_up_ne _ _ (show 2 * q + 1 ≠ 2 * p + 1 by omega), va_up_ne _ _ (show 2 * q + 1 ≠ 2 * p by omega)]
          exact a1 q hq
      by_cases hz : nb = 0
      · rw [if_pos (by rw [hz]; rfl), ← nI_0]
        exact fin 0 (by omega) (by rw [hz]; unfold sz; split <;> rfl)
      · rw [if_neg (fun w => hz ((ja_e0 (by omega)).mp w)), e0]
        simp only [Option.bind_some]
        by_cases h0 : v 32 = 0
        · rw [if_neg (by rw [if_pos h0]; decide), ← nI_0]
          exact fin 0 (by omega) (by unfold sz; rw [if_pos h0])
        · rw [if_pos (by rw [if_neg h0])]
          exact fin 1 (by omega) (by unfold sz; rw [if_neg h0]; omega)
    · rw [if_neg (by rw [if_neg h2]; decide), if_neg (fun w => h2 w.2), if_neg (fun w => h2 w.2)]
      exact ⟨σ, rfl, z, v, M, V⟩
  · rw [if_neg (by rw [if_neg h1]; decide), if_neg (fun w => h1 w.1), if_neg (fun w => h1 w.1)]
    exact ⟨σ, rfl, z, v, M, V⟩
end MJ
