/-! the text: a number, a fraction -/
noncomputable def nd (r n : Nat) : Nat := if h : 2 ≤ r then Classical.choose (ND_ex h n) else 0
theorem nd_is {r : Nat} (h : 2 ≤ r) (n : Nat) : ND r n (nd r n) := by
  unfold nd
  rw [dif_pos h]
  exact Classical.choose_spec (ND_ex h n)
def gD (st n r e : Nat) (g : Nat → Nat) : Nat → Nat := fun k => if k < st then g k else chr (n / r ^ (e - 1 - (k - st)) % r)
noncomputable def spW (x : g_Fr) (r : Nat) : Nat × (Nat → Nat) :=
  if x.2.1 = 1 then (x.2.2 + nd r x.1, gD x.2.2 x.1 r (nd r x.1) (fun _ => 45))
  else (x.2.2 + nd r x.1 + 1 + nd r x.2.1, gD (x.2.2 + nd r x.1 + 1) x.2.1 r (nd r x.2.1) (fun k => if k = x.2.2 + nd r x.1 then 47 else gD x.2.2 x.1 r (nd r x.1) (fun _ => 45) k))
section TY
variable {K : g_Q9} {σb : g_S}
theorem t_mainX (hK : kOK K) {st n r D : Nat} {bl : Nat → Nat} {tp : Nat × Nat × (Nat → Int32)} {g : Nat → Nat} (hr : 2 ≤ r) (hr2 : r ≤ 36) (hD0 : 0 < D) (hD : D ≤ 31) (hP : r ^ D < 2147483648) (hroom : st + 2048 ≤ 4098) (hn : n < TOP) (hn0 : n ≠ 0) :
    ∀ (f t c : Nat) (σ : g_S) (x : Nat × (Nat → Int32)) (v : Nat → Nat), 2048 - t < f → t ≤ 2048 → t ≤ c → St K σb σ (bl, tp, x) v → v 44 = n / r ^ c → TXT x (st + c) (gN st g n r) → (∀ j, j < c → n / r ^ j ≠ 0) →
      ∃ σ' x' v', LX6_appendNatural_61 f σ (K.2.2.1 6) (nI r) (nI (r ^ D)) (nI D) (nI st) (nI t) = some σ' ∧ St K σb σ' (bl, tp, x') v' ∧ (∀ j, j ≠ 44 → v' j = v j) ∧ TXT x' (st + nd r n) (gD st n r (nd r n) g) := by
  have i44 : (44 : Nat) < 45 := by decide
  have hpD : 0 < r ^ D := Nat.pow_pos (by omega)
  intro f
  induction f with
  | zero => intro t c σ x v h; omega
  | succ f ih =>
    intro t c σ x v hf ht htc S hv hX hpos
    have stop : n / r ^ c = 0 → ∃ σ' x' v', BX6_appendNatural_100 σ (K.2.2.1 6) (nI st) = some σ' ∧ St K σb σ' (bl, tp, x') v' ∧ (∀ j, j ≠ 44 → v' j = v j) ∧ TXT x' (st + nd r n) (gD st n r (nd r n) g) := by
      intro hz
      have hc : ND r n c := ND_of hn0 hz hpos hr
      have ec : c = nd r n := ND_uniq hr hc (nd_is hr n)
      obtain ⟨σ1, x1, e1, S1, X1⟩ := t_turn hK (st := st) (l := st + c) (by have := hc.1; omega) S hX
      refine ⟨σ1, x1, v, ?_, S1, fun _ _ => rfl, ?_⟩
      · unfold BX6_appendNatural_100
        simp only [rdX hK S, e1, Option.bind_some]
      · rw [← ec]
        refine TXT.congr X1 (fun k hk => ?_)
        unfold gT gN gD
        by_cases w : k < st
        · rw [if_pos w, if_pos w, if_pos w]
        · rw [if_neg w, if_neg w, if_neg (by omega)]
          congr 4
          omega
    unfold LX6_appendNatural_61
    rw [show (2048 : Int32) = nI 2048 from rfl]
    by_cases h1 : t = 2048
    · rw [if_pos (nI_le (by omega) (by omega))]
      refine stop ?_
      by_cases w : n / r ^ c = 0
      · exact w
      · exact absurd (kz hr hn w) (by clear stop ih; omega)
    · rw [if_neg (nI_ge (by clear stop ih; omega) (by clear stop ih; omega))]
      simp only [rdX hK S, Option.bind_some, S.n hK i44, t_isZero hK S i44, hv]
      by_cases hz : n / r ^ c = 0
      · rw [if_neg (by rw [if_pos hz]; decide)]
        exact stop hz
      · clear stop
        rw [if_pos (by rw [if_neg hz])]
        obtain ⟨σ1, e1, S1⟩ := t_div hK S (i := 44) (n := r ^ D) i44 hpD hP
        rw [hv] at e1 S1
        have k44 : va_up v 44 (n / r ^ c / r ^ D) 44 = n / r ^ (c + D) := by rw [va_up_self, Nat.div_div_eq_div_mul, ← Nat.pow_add]
        have hlt : n / r ^ c % r ^ D < 2147483648 := by have := Nat.mod_lt (n / r ^ c) hpD; omega
        obtain ⟨σ2, x2, m, e2, S2, m1, X2, m2, m3⟩ := t_groupX hK (st := st) (n := n) (r := r) (c0 := c) (D := D) (g := g) hr hr2 hD k44 hlt hroom hn g_fuel 0 σ1 x (fuel_ge (by omega)) (by omega) S1 hX hpos
        rw [Nat.pow_zero, Nat.div_one] at e2
        have eg : fX6_appendGroup σ1 (K.2.2.1 6) (nI (n / r ^ c % r ^ D)) (nI r) (nI D) = some σ2 := e2
        have hm0 : 0 < m := by
          rcases Nat.eq_zero_or_pos m with q | q
          · rcases m3 with w | w
            · omega
            · rw [q] at w; exact absurd w hz
          · exact q
        simp only [e1, Option.bind_some, rdX hK S1, eg, g_let]
        rw [nI_1]
        have kv : va_up v 44 (n / r ^ c / r ^ D) 44 = n / r ^ (c + m) := by
          rw [k44]
          rcases m3 with w | w
          · rw [w]
          · rw [w]
            rcases Nat.div_eq_zero_iff.mp w with q | q
            · have : 0 < r ^ (c + m) := Nat.pow_pos (by omega)
              omega
            · have : r ^ (c + m) ≤ r ^ (c + D) := Nat.pow_le_pow_right (by omega) (by omega)
              exact Nat.div_eq_of_lt (by omega)
        obtain ⟨σ', x', v', f1, f2, f3, f4⟩ := ih (t + 1) (c + m) σ2 x2 _ (by omega) (by omega) (by omega) S2 kv X2 m2
        exact ⟨σ', x', v', f1, f2, fun j hj => by rw [f3 j hj, va_up_ne _ _ hj], f4⟩
theorem t_powL {σ : g_S} {a o r : Nat} (hr : 2 ≤ r) (hr2 : r ≤ 36) : ∀ (f D : Nat), 31 - D < f → 0 < D → D ≤ 31 → r ^ D < 2147483648 → ∃ D', 0 < D' ∧ D' ≤ 31 ∧ r ^ D' < 2147483648 ∧ LX6_appendNatural_19 f σ o a (nI r) (nI (r ^ D)) (nI D) = BX6_appendNatural_44 σ o a (nI r) (nI (r ^ D')) (nI D') := by
  intro f
  induction f with
  | zero => intro D h; omega
  | succ f ih =>
    intro D hf hD0 hD hP
    unfold LX6_appendNatural_19
    rw [show (31 : Int32) = nI 31 from rfl]
    by_cases h1 : D = 31
    · rw [if_pos (nI_le (by omega) (by omega))]
      exact ⟨D, hD0, hD, hP, rfl⟩
    · have hr0 : ¬ nI r = 0 := fun w => by have := (ja_e0 (by omega)).mp w; omega
      rw [if_neg (nI_ge (by omega) (by omega)), g_if_pos hr0, show (2147483647 : Int32) = nI 2147483647 from rfl, pk_div (by omega) (by omega) (by omega)]
      have hq : 2147483647 / r ≤ 2147483647 := Nat.div_le_self _ _
      by_cases h2 : 2147483647 / r < r ^ D
      · rw [if_pos (nI_lt h2 (by omega))]
        exact ⟨D, hD0, hD, hP, rfl⟩
      · rw [if_neg (nI_nlt (by omega) (by omega))]
        have hm : r ^ D * r ≤ 2147483647 := (Nat.le_div_iff_mul_le (by omega)).mp (by omega)
        simp only [g_let]
        rw [pk_mul, nI_1, ← Nat.pow_succ]
        exact ih (D + 1) (by omega) (by omega) (by omega) (by rw [Nat.pow_succ]; omega)
theorem t_natT (hK : kOK K) {σ : g_S} {v : Nat → Nat} {bl : Nat → Nat} {tp : Nat × Nat × (Nat → Int32)} {x : Nat × (Nat → Int32)} {st r i : Nat} {g : Nat → Nat} (hi : i < 45) (hi4 : i ≠ 44) (hr : 2 ≤ r) (hr2 : r ≤ 36) (hv : v i < TOP) (S : St K σb σ (bl, tp, x) v) (hX : TXT x st g) (hroom : st + 2048 ≤ 4098) :
    ∃ σ' x' v', fX6_appendNatural σ (K.2.2.1 6) (K.1.1 i) (nI r) = some σ' ∧ St K σb σ' (bl, tp, x') v' ∧ (∀ j, j ≠ 44 → v' j = v j) ∧ TXT x' (st + nd r (v i)) (gD st (v i) r (nd r (v i)) g) := by
  have i44 : (44 : Nat) < 45 := by decide
  unfold fX6_appendNatural
  simp only [S.n hK hi, t_isZero hK S hi, Option.bind_some]
  by_cases h0 : v i = 0
  · rw [if_neg (by rw [if_pos h0]; decide)]
    obtain ⟨σ1, x1, e1, S1, X1⟩ := t_appX hK S hX (c := 48) (by omega) (by omega)
    have e0 : nd r (v i) = 1 := ND_uniq hr (nd_is hr _) ⟨by omega, by rw [h0, Nat.pow_one]; omega, Or.inl rfl⟩
    refine ⟨σ1, x1, v, ?_, S1, fun _ _ => rfl, ?_⟩
    · rw [show (48 : Int32) = nI 48 from rfl]
      simp only [rdX hK S, e1, Option.bind_some]
    · rw [e0, h0]
      refine TXT.congr X1 (fun k hk => ?_)
      show (if k = st then 48 else g k) = _
      unfold gD
      by_cases w : k = st
      · rw [if_pos w, if_neg (by omega), Nat.zero_div, Nat.zero_mod]; rfl
      · rw [if_neg w, if_pos (by omega)]
  · rw [if_pos (by rw [if_neg h0])]
    have hr1 : nI r = nI (r ^ 1) := by rw [Nat.pow_one]
    obtain ⟨D', d1, d2, d3, d4⟩ := t_powL (σ := σ) (a := K.1.1 i) (o := K.2.2.1 6) hr hr2 g_fuel 1 (fuel_ge (by omega)) (by omega) (by omega) (by rw [Nat.pow_one]; omega)
    rw [Nat.pow_one] at d4
    rw [show (1 : Int32) = nI 1 from rfl, d4]
    obtain ⟨σ1, e1, S1⟩ := t_become hK S i44 hi (Or.inl hv)
    obtain ⟨σ2, x2, v2, e2, S2, f2, X2⟩ := t_mainX hK (st := st) (n := v i) (D := D') (g := g) hr hr2 d1 d2 d3 hroom hv h0 g_fuel 0 0 σ1 x _ (fuel_ge (by omega)) (by omega) (by omega) S1 (by rw [va_up_self, Nat.pow_zero, Nat.div_one]) (TXT.congr hX (fun k hk => by unfold gN; rw [if_pos (by omega)])) (fun j hj => by omega)
    refine ⟨σ2, x2, v2, ?_, S2, fun j hj => by rw [f2 j hj, va_up_ne _ _ hj], X2⟩
    unfold BX6_appendNatural_44
    simp only [rdX hK S, Option.bind_some, S.n hK i44, e1]
    rw [hX.1]
    exact e2
theorem t_text (hK : kOK K) {σ : g_S} {y : g_Y} {v : Nat → Nat} {p r : Nat} (hp : p < 16) (hr : 2 ≤ r) (hr2 : r ≤ 36) (S : St K σb σ y v) (hx : fOK (v (2 * p), v (2 * p + 1), y.1 p)) :
    ∃ σ' x' v', fX6_become σ (K.2.2.1 6) (K.2.1 p) (nI r) = some σ' ∧ St K σb σ' (y.1, y.2.1, x') v' ∧ (∀ j, j ≠ 44 → v' j = v j) ∧ TXT x' (spW (v (2 * p), v (2 * p + 1), y.1 p) r).1 (spW (v (2 * p), v (2 * p + 1), y.1 p) r).2 := by
  obtain ⟨x1, x2, x3, x4, x5, x6⟩ := hx
  simp only at x1 x2 x3 x4 x5 x6
  have p17 : p < 17 := by omega
  obtain ⟨σ1, e1, S1⟩ := t_putX1 hK S 0
  -- the sign
  have sign : ∃ σ2 xx, ((g_fi σ1 2 (K.2.1 p) 2).bind fun v2 => if v2 = 0 then (BX6_become_18 σ1 (K.2.2.1 6) (K.2.1 p) (nI r)) else ((g_o σ1 6 (K.2.2.1 6)).bind fun o15 => (fX6_append σ1 (K.2.2.1 6) 45).bind fun r16 => BX6_become_18 r16 (K.2.2.1 6) (K.2.1 p) (nI r))) = BX6_become_18 σ2 (K.2.2.1 6) (K.2.1 p) (nI r) ∧ St K σb σ2 (y.1, y.2.1, xx) v ∧ TXT xx (y.1 p) (fun _ => 45) := by
    simp only [rdF hK S1 p17, Option.bind_some]
    have X0 : TXT (0, y.2.2.2) 0 (fun _ => 45) := ⟨rfl, by omega, fun k hk => by omega⟩
    by_cases hb : y.1 p = 0
    · rw [if_pos (by rw [hb]; rfl), hb]
      exact ⟨σ1, _, rfl, S1, X0⟩
    · rw [if_neg (fun w => hb ((ja_e0 (by omega)).mp w)), show y.1 p = 0 + 1 by omega]
      obtain ⟨σ2, xx, e2, S2, X2⟩ := t_appX hK S1 X0 (c := 45) (by omega) (by omega)
      refine ⟨σ2, xx, ?_, S2, TXT.congr X2 (fun k hk => ?_)⟩
      · rw [show (45 : Int32) = nI 45 from rfl]
        simp only [rdX hK S1, e2, Option.bind_some]
      · show (if k = 0 then 45 else 45) = 45
        split <;> rfl
  obtain ⟨σ2, xx, e2, S2, X2⟩ := sign
  have nle := ND_le hr (nd_is hr (v (2 * p))) x1
  obtain ⟨σ3, xn, v3, e3, S3, f3, X3⟩ := t_natT hK (i := 2 * p) (by omega) (by omega) hr hr2 x1 S2 X2 (by omega)
  have k1 : v3 (2 * p + 1) = v (2 * p + 1) := f3 _ (by omega)
  have ew := t_isWhole hK S3 p17
  rw [k1] at ew
  have efx : fX6_become σ (K.2.2.1 6) (K.2.1 p) (nI r) = BX6_become_18 σ2 (K.2.2.1 6) (K.2.1 p) (nI r) := by
    unfold fX6_become
    rw [nI_0] at e1
    rw [e1, Option.bind_some]
    exact e2
  rw [efx]
  unfold BX6_become_18 BX6_become_49 spW
  simp only [rdF hK S2 p17, Option.bind_some, rdX hK S2, e3, rdF hK S3 p17, ew]
  by_cases hd : v (2 * p + 1) = 1
  · rw [if_neg (by rw [if_pos hd]; decide), if_pos hd]
    exact ⟨σ3, xn, v3, rfl, S3, f3, X3⟩
  · rw [if_pos (by rw [if_neg hd]), if_neg hd]
    obtain ⟨σ4, x4', e4, S4, X4⟩ := t_appX hK S3 X3 (c := 47) (by omega) (by omega)
    obtain ⟨σ5, x5', v5, e5, S5, f5, X5⟩ := t_natT hK (i := 2 * p + 1) (by omega) (by omega) hr hr2 (by rw [k1]; exact x3) S4 X4 (by omega)
    rw [k1] at X5
    refine ⟨σ5, x5', v5, ?_, S5, fun j hj => by rw [f5 j hj, f3 j hj], X5⟩
    rw [show (47 : Int32) = nI 47 from rfl]
    simp only [rdX hK S3, e4, Option.bind_some, rdF hK S4 p17, rdX hK S4, e5]
end TY
