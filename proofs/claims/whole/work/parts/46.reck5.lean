/-! Reckoner: rounding and least terms -/
section RO
variable {K : g_Q9} {σb σ : g_S} {y : g_Y} {v : Nat → Nat}
theorem cmpI_pos (a b : Nat) : 0 < cmpI a b ↔ b < a := by
  unfold cmpI
  by_cases h : a = b
  · rw [if_pos h]; simp [h]
  · rw [if_neg h]
    by_cases h2 : a < b
    · rw [if_pos h2]; simp; omega
    · rw [if_neg h2]; simp; omega
theorem cmpI_z (a b : Nat) : cmpI a b = 0 ↔ a = b := by
  unfold cmpI
  by_cases h : a = b
  · rw [if_pos h]; simp [h]
  · rw [if_neg h]
    by_cases h2 : a < b
    · rw [if_pos h2]; simp [h]
    · rw [if_neg h2]; simp [h]
theorem t_away (hK : kOK K) (S : St K σb σ y v) {p : Nat} {op : Int32} (hp : p < 16) (hx : fOK (v (2 * p), v (2 * p + 1), y.1 p)) (h34 : v 34 = v (2 * p) / v (2 * p + 1)) (h35 : v 35 = v (2 * p) % v (2 * p + 1)) :
    ∃ σ' v', fX4_isAwayFromZero σ (K.2.2.1 1) (K.2.1 p) op = some (nI (cAw (v (2 * p), v (2 * p + 1), y.1 p) op), σ') ∧ St K σb σ' y v' ∧ ∀ i, i < 42 → v' i = v i := by
  obtain ⟨x1, x2, x3, x4, x5, x6⟩ := hx
  simp only at x1 x2 x3 x4 x5 x6
  have i34 : (34 : Nat) < 45 := by decide
  have i35 : (35 : Nat) < 45 := by decide
  have i42 : (42 : Nat) < 45 := by decide
  have p17 : p < 17 := by omega
  unfold fX4_isAwayFromZero BX4_isAwayFromZero_18 BX4_isAwayFromZero_103 BX4_isAwayFromZero_107 BX4_isAwayFromZero_108 BX4_isAwayFromZero_40 BX4_isAwayFromZero_48 cAw
  simp only [rdR hK S, Option.bind_some, S.n hK i35, t_isZero hK S i35, h35]
  by_cases hr : v (2 * p) % v (2 * p + 1) = 0
  · rw [if_neg (by rw [if_pos hr]; decide), if_pos hr]
    exact ⟨σ, v, rfl, S, fun _ _ => rfl⟩
  rw [if_pos (by rw [if_neg hr]), if_neg hr]
  by_cases h5 : op = 5
  · rw [if_pos h5, if_pos h5]
    exact ⟨σ, v, rfl, S, fun _ _ => rfl⟩
  rw [if_neg h5, if_neg h5]
  by_cases h6 : op = 6
  · rw [if_pos h6, if_pos h6]
    have rlt : v (2 * p) % v (2 * p + 1) < v (2 * p + 1) := Nat.mod_lt _ x2
    obtain ⟨σ1, e1, S1⟩ := t_sum hK S (i := 42) (p := 35) (q := 35) i42 i35 i35 (by decide) (by decide) (TOP_WB (by omega)) (TOP_WB (by omega)) (hK.2.1 42 (by omega))
    rw [h35, show v (2 * p) % v (2 * p + 1) + v (2 * p) % v (2 * p + 1) = 2 * (v (2 * p) % v (2 * p + 1)) by omega] at S1
    have k1 : va_up v 42 (2 * (v (2 * p) % v (2 * p + 1))) (2 * p + 1) = v (2 * p + 1) := va_up_ne _ _ (by omega)
    have k2 : va_up v 42 (2 * (v (2 * p) % v (2 * p + 1))) 34 = v (2 * p) / v (2 * p + 1) := by rw [va_up_ne _ _ (by omega), h34]
    have eo := t_order hK S1 (i := 42) (j := 2 * p + 1) i42 (by omega)
    have ed := t_isOdd hK S1 i34
    rw [va_up_self, k1] at eo
    rw [k2] at ed
    simp only [S.n hK i42, e1, Option.bind_some, rdR hK S1, rdF hK S1 p17, S1.n hK i42, eo]
    refine ⟨σ1, _, ?_, S1, fun i hi => va_up_ne _ _ (by omega)⟩
    by_cases hc : v (2 * p + 1) < 2 * (v (2 * p) % v (2 * p + 1))
    · rw [if_pos ((cmpI_pos _ _).mpr hc), if_pos (Or.inl hc)]
      exact g_if_pos (by simp)
    · rw [if_neg (fun w => hc ((cmpI_pos _ _).mp w))]
      by_cases he : 2 * (v (2 * p) % v (2 * p + 1)) = v (2 * p + 1)
      · rw [if_pos ((cmpI_z _ _).mpr he)]
        simp only [S1.n hK i34, ed, Option.bind_some]
        by_cases ho : v (2 * p) / v (2 * p + 1) % 2 = 1
        · rw [if_neg (by rw [if_pos ho]; decide), if_pos (Or.inr ⟨he, ho⟩)]
          exact g_if_pos (by simp)
        · rw [if_pos (by rw [if_neg ho]), if_neg (fun w => by rcases w with w | w; exact hc w; exact ho w.2)]
          exact g_if_pos (by simp)
      · rw [if_neg (fun w => he ((cmpI_z _ _).mp w)), if_neg (fun w => by rcases w with w | w; exact hc w; exact he w.1)]
        exact g_if_pos (by simp)
  rw [if_neg h6, if_neg h6]
  simp only [rdF hK S p17, Option.bind_some]
  refine ⟨σ, v, ?_, S, fun _ _ => rfl⟩
  by_cases h3 : op = 3
  · rw [if_pos h3, if_pos h3]
    by_cases hb : y.1 p = 1
    · rw [if_pos (by rw [hb]; rfl), hb]
      exact g_if_pos (by simp)
    · rw [if_neg (fun w => hb ((ja_e1 (by omega)).mp w)), show y.1 p = 0 by omega]
      exact g_if_pos (by simp)
  · rw [if_neg h3, if_neg h3]
    by_cases hb : y.1 p = 0
    · rw [if_pos (by rw [hb]; rfl), hb]
      exact g_if_pos (by simp)
    · rw [if_neg (fun w => hb ((ja_e0 (by omega)).mp w)), show 1 - y.1 p = 0 by omega]
      exact g_if_pos (by simp)
theorem cAw_le (x : g_Fr) (op : Int32) (hb : x.2.2 ≤ 1) : cAw x op ≤ 1 ∧ (x.1 % x.2.1 = 0 → cAw x op = 0) := by
  unfold cAw
  by_cases h : x.1 % x.2.1 = 0
  · rw [if_pos h]; exact ⟨by omega, fun _ => rfl⟩
  · rw [if_neg h]
    refine ⟨?_, fun w => absurd w h⟩
    split
    · omega
    · split
      · split <;> omega
      · split <;> omega
theorem t_make (hK : kOK K) (S : St K σb σ y v) {p : Nat} {op : Int32} (hp : p < 16) (hx : fOK (v (2 * p), v (2 * p + 1), y.1 p)) :
    RR K σb y v (fX4_makeWhole σ (K.2.2.1 1) (K.2.1 p) op) (0, v (2 * p) / v (2 * p + 1) + cAw (v (2 * p), v (2 * p + 1), y.1 p) op, 1, sz (v (2 * p) / v (2 * p + 1) + cAw (v (2 * p), v (2 * p + 1), y.1 p) op) (y.1 p)) := by
  have p17 : p < 17 := by omega
  obtain ⟨x1, x2, x3, x4, x5, x6⟩ := id hx
  simp only at x1 x2 x3 x4 x5 x6
  obtain ⟨σ1, v1, e1, S1, g1, g2, f1⟩ := t_divide hK S (p := 2 * p) (q := 2 * p + 1) (by omega) (by omega) (by omega) (by omega) (TOP_WB x1) (TOP_WB x3)
  have k1 : v1 (2 * p) = v (2 * p) := f1 _ (by omega)
  have k2 : v1 (2 * p + 1) = v (2 * p + 1) := f1 _ (by omega)
  obtain ⟨σ2, v2, e2, S2, f2⟩ := t_away hK S1 (op := op) hp (by rw [k1, k2]; exact hx) (by rw [k1, k2]; exact g1) (by rw [k1, k2]; exact g2)
  rw [k1, k2] at e2
  obtain ⟨c1, c2⟩ := cAw_le (v (2 * p), v (2 * p + 1), y.1 p) op x5
  simp only at c2
  generalize cAw (v (2 * p), v (2 * p + 1), y.1 p) op = u at *
  have k34 : v2 34 = v (2 * p) / v (2 * p + 1) := by rw [f2 _ (by omega), g1]
  have hbnd : v2 34 + u < TOP := by
    rw [k34]
    by_cases hr : v (2 * p) % v (2 * p + 1) = 0
    · have := c2 hr
      have := Nat.div_le_self (v (2 * p)) (v (2 * p + 1))
      omega
    · have := q_up hr
      omega
  obtain ⟨σ3, v3, e3, S3, g3, g4, f3⟩ := t_quot hK S2 c1 x5 hbnd
  rw [k34] at S3 g3
  refine ⟨σ3, _, v3, ?_, S3, ⟨fun i hi => by rw [f3 i hi, f2 i (by omega), f1 i (by omega)], fun r hr => va_up_ne _ _ (by omega), rfl⟩, fun _ => ⟨g3, g4, by simp only [va_up_self]⟩⟩
  unfold fX4_makeWhole
  simp only [rdR hK S, rdF hK S p17, e1, Option.bind_some, rdR hK S1, e2, rdF hK S2 p17, rdR hK S2, e3]
theorem t_change (hK : kOK K) (S : St K σb σ y v) {p : Nat} {op : Int32} (hp : p < 16) (hx : fOK (v (2 * p), v (2 * p + 1), y.1 p)) :
    RR K σb y v (fX4_change σ (K.2.2.1 1) (K.2.1 p) op) (spR (v (2 * p), v (2 * p + 1), y.1 p) op) := by
  have p17 : p < 17 := by omega
  obtain ⟨x1, x2, x3, x4, x5, x6⟩ := id hx
  simp only at x1 x2 x3 x4 x5 x6
  have mk := t_make hK S (op := op) hp hx
  unfold fX4_change spR
  by_cases h0 : op = 0
  · rw [if_pos h0, if_pos h0]
    obtain ⟨σ1, e1, S1⟩ := t_whole hK S (p := 16) (i := 2 * p) (n := y.1 p) (by decide) (by omega) (by omega) x1 x5
    refine ⟨σ1, _, _, ?_, S1, ⟨fun i hi => by rw [va_up_ne _ _ (by omega), va_up_ne _ _ (by omega)], fun r hr => va_up_ne _ _ (by omega), rfl⟩, fun _ => ⟨?_, va_up_self _ _ _, by simp only [va_up_self]; rfl⟩⟩
    · simp only [rdR hK S, rdF hK S p17, rdG hK S, Option.bind_some, e1]
    · rw [va_up_ne _ _ (by omega)]
      exact va_up_self _ _ _
  rw [if_neg h0, if_neg h0]
  by_cases h1 : op = 1
  · rw [if_pos h1, if_pos h1]
    obtain ⟨σ1, e1, S1⟩ := t_whole hK S (p := 16) (i := 2 * p + 1) (n := 0) (by decide) (by omega) (by omega) x3 (by omega)
    refine ⟨σ1, _, _, ?_, S1, ⟨fun i hi => by rw [va_up_ne _ _ (by omega), va_up_ne _ _ (by omega)], fun r hr => va_up_ne _ _ (by omega), rfl⟩, fun _ => ⟨?_, va_up_self _ _ _, by simp only [va_up_self]; split <;> rfl⟩⟩
    · rw [nI_0] at e1
      simp only [rdR hK S, rdF hK S p17, rdG hK S, Option.bind_some, e1]
    · rw [va_up_ne _ _ (by omega)]
      exact va_up_self _ _ _
  rw [if_neg h1, if_neg h1]
  obtain ⟨σ1, e1, S1⟩ := t_becomeF hK S (p := 16) (r := p) (by decide) p17 (by omega) x1 x3 x5
  have sg : ∀ n, n ≤ 1 → ∃ σ2, fX2_sign σ1 (K.2.1 16) (nI n) = some σ2 ∧ St K σb σ2 (va_up (va_up y.1 16 (y.1 p)) 16 (sz (v (2 * p)) n), y.2) (va_up (va_up v (2 * 16) (v (2 * p))) (2 * 16 + 1) (v (2 * p + 1))) := by
    intro n hn
    obtain ⟨σ2, e2, S2⟩ := t_sign hK S1 (p := 16) (n := n) (by decide) hn
    rw [va_up_ne _ _ (by omega), va_up_self] at S2
    exact ⟨σ2, e2, S2⟩
  have kk : ∀ n, Kept v (va_up (va_up v (2 * 16) (v (2 * p))) (2 * 16 + 1) (v (2 * p + 1))) y (va_up (va_up y.1 16 (y.1 p)) 16 (sz (v (2 * p)) n), y.2) := fun n => ⟨fun i hi => by rw [va_up_ne _ _ (by omega), va_up_ne _ _ (by omega)], fun r hr => by simp only [va_up_ne _ _ (show r ≠ 16 by omega)], rfl⟩
  have k32 : va_up (va_up v (2 * 16) (v (2 * p))) (2 * 16 + 1) (v (2 * p + 1)) 32 = v (2 * p) := by rw [va_up_ne _ _ (by omega)]; exact va_up_self _ _ _
  have k33 : va_up (va_up v (2 * 16) (v (2 * p))) (2 * 16 + 1) (v (2 * p + 1)) 33 = v (2 * p + 1) := va_up_self _ _ _
  by_cases h2 : op = 2
  · rw [if_pos h2, if_pos h2]
    obtain ⟨σ2, e2, S2⟩ := sg 0 (by omega)
    refine ⟨σ2, _, _, ?_, S2, kk 0, fun _ => ⟨k32, k33, by simp only [va_up_self]; unfold sz; split <;> rfl⟩⟩
    rw [nI_0] at e2
    simp only [rdR hK S, rdG hK S, Option.bind_some, e1, rdR hK S1, rdG hK S1, e2]
  rw [if_neg h2, if_neg h2]
  by_cases h7 : op = 7
  · rw [if_neg (show ¬ op = 3 by rw [h7]; decide), if_neg (show ¬ op = 4 by rw [h7]; decide), if_neg (show ¬ op = 5 by rw [h7]; decide), if_neg (show ¬ op = 6 by rw [h7]; decide), if_pos h7, if_pos h7]
    unfold BX4_change_128
    obtain ⟨σ2, e2, S2⟩ := sg (1 - y.1 p) (by omega)
    refine ⟨σ2, _, _, ?_, S2, kk (1 - y.1 p), fun _ => ⟨k32, k33, by simp only [va_up_self]⟩⟩
    have b1 : va_up y.1 16 (y.1 p) p = y.1 p := va_up_ne _ _ (by omega)
    simp only [rdR hK S, rdG hK S, Option.bind_some, e1, rdR hK S1, rdG hK S1, rdF hK S1 p17, b1]
    by_cases hb : y.1 p = 0
    · rw [if_pos (by rw [hb]; rfl)]
      rw [hb] at e2
      rw [show (1 : Int32) = nI (1 - 0) from rfl, e2]
      rfl
    · rw [if_neg (fun w => hb ((ja_e0 (by omega)).mp w))]
      rw [show 1 - y.1 p = 0 by omega, nI_0] at e2
      rw [e2]
      rfl
  · rw [if_neg h7, if_neg h7]
    by_cases h3 : op = 3
    · rw [if_pos h3, if_pos (Or.inl h3)]
      simp only [rdR hK S]
      exact mk.id
    rw [if_neg h3]
    by_cases h4 : op = 4
    · rw [if_pos h4, if_pos (Or.inr (Or.inl h4))]
      simp only [rdR hK S]
      exact mk.id
    rw [if_neg h4]
    by_cases h5 : op = 5
    · rw [if_pos h5, if_pos (Or.inr (Or.inr (Or.inl h5)))]
      simp only [rdR hK S]
      exact mk.id
    rw [if_neg h5]
    by_cases h6 : op = 6
    · rw [if_pos h6, if_pos (Or.inr (Or.inr (Or.inr h6)))]
      simp only [rdR hK S]
      exact mk.id
    rw [if_neg h6, if_neg (fun w => by rcases w with w | w | w | w; exact h3 w; exact h4 w; exact h5 w; exact h6 w)]
    exact RR.no S (by decide) _
theorem t_reduce (hK : kOK K) (S : St K σb σ y v) (l1 : v 32 < TOP) (l2 : v 33 < TOP) (p2 : 0 < v 33) : ∃ σ' v', fX4_reduce σ (K.2.2.1 1) = some σ' ∧ St K σb σ' y v' ∧ v' 32 = v 32 / Nat.gcd (v 32) (v 33) ∧ v' 33 = v 33 / Nat.gcd (v 32) (v 33) ∧ ∀ i, i < 32 → v' i = v i := by
  have i32 : (32 : Nat) < 45 := by decide
  have i33 : (33 : Nat) < 45 := by decide
  have i34 : (34 : Nat) < 45 := by decide
  have i37 : (37 : Nat) < 45 := by decide
  obtain ⟨σ1, v1, e1, S1, g1, f1⟩ := t_cd hK S i32 i33 (by omega) (by omega) (TOP_WB l1) (TOP_WB l2)
  have gle : Nat.gcd (v 32) (v 33) ≤ v 33 := Nat.gcd_le_right _ p2
  have k32 := f1 32 (by omega)
  have k33 := f1 33 (by omega)
  generalize eg : Nat.gcd (v 32) (v 33) = g at *
  unfold fX4_reduce BX4_reduce_73
  simp only [rdR hK S, rdG hK S, e1, Option.bind_some, S1.n hK i37, t_isOne hK S1 i37, g1]
  by_cases h1 : g = 1
  · rw [if_neg (by rw [if_pos h1]; decide)]
    refine ⟨σ1, v1, rfl, S1, ?_, ?_, fun i hi => f1 i (by omega)⟩
    · rw [h1, Nat.div_one]; exact k32
    · rw [h1, Nat.div_one]; exact k33
  · rw [if_pos (by rw [if_neg h1])]
    obtain ⟨σ2, v2, e2, S2, g2, f2⟩ := t_over hK S1 i32 i37 (by omega) (by omega) (TOP_WB (by rw [k32]; exact l1)) (TOP_WB (by rw [g1]; omega))
    rw [k32, g1] at g2
    have q1 : v 32 / g ≤ v 32 := Nat.div_le_self _ _
    have q2 : v 33 / g ≤ v 33 := Nat.div_le_self _ _
    obtain ⟨σ3, e3, S3⟩ := t_become hK S2 i32 i34 (Or.inl (by rw [g2]; omega))
    rw [g2] at S3
    have m33 : va_up v2 32 (v 32 / g) 33 = v 33 := by rw [va_up_ne _ _ (by omega), f2 _ (by omega), k33]
    have m37 : va_up v2 32 (v 32 / g) 37 = g := by rw [va_up_ne _ _ (by omega), f2 _ (by omega), g1]
    obtain ⟨σ4, v4, e4, S4, g4, f4⟩ := t_over hK S3 i33 i37 (by omega) (by omega) (TOP_WB (by rw [m33]; exact l2)) (TOP_WB (by rw [m37]; omega))
    rw [m33, m37] at g4
    obtain ⟨σ5, e5, S5⟩ := t_become hK S4 i33 i34 (Or.inl (by rw [g4]; omega))
    rw [g4] at S5
    refine ⟨σ5, _, ?_, S5, ?_, va_up_self _ _ _, fun i hi => by rw [va_up_ne _ _ (by omega), f4 _ (by omega), va_up_ne _ _ (by omega), f2 _ (by omega), f1 _ (by omega)]⟩
    · simp only [rdR hK S1, rdG hK S1, Option.bind_some, e2, S2.n hK i32, e3, rdR hK S3, rdG hK S3, e4, S4.n hK i33, e5]
    · rw [va_up_ne _ _ (by omega), f4 _ (by omega), va_up_self]
end RO
