/-! Reckoner: powers, whole quotients, rounding, least terms -/
section RM
variable {K : g_Q9} {σb : g_S}
theorem pow_big {N k e : Nat} (h : TOP ≤ N ^ k) (hk : k ≤ e) : TOP ≤ N ^ e := by
  have h1 := TOP_1
  rcases Nat.eq_zero_or_pos N with q | q
  · subst q
    rcases Nat.eq_zero_or_pos k with r | r
    · subst r; rw [Nat.pow_zero] at h; omega
    · rw [Nat.zero_pow r] at h; omega
  · exact Nat.le_trans h (Nat.pow_le_pow_right q hk)
theorem cPow_big {N D b k e : Nat} (h : ¬ (N ^ k < TOP ∧ D ^ k < TOP)) (hk : k ≤ e) : cPow (N, D, b) e = (-3, 0, 1, 0) := by
  unfold cPow
  rw [if_neg]
  intro q
  rcases Nat.lt_or_ge (N ^ k) TOP with r | r
  · rcases Nat.lt_or_ge (D ^ k) TOP with w | w
    · exact h ⟨r, w⟩
    · have := pow_big w hk; simp only at q; omega
  · have := pow_big r hk; simp only at q; omega
theorem ja_shrK {n k : Nat} (hn : n < 2147483648) (hk : k < 32) : g_ishr (nI n) (nI k) = nI (n / 2 ^ k) := pk_shrN hn (nI k &&& 31) k (nj_sl k hk)
theorem half_of (e m : Nat) : e / 2 ^ (m + 1) = e / 2 ^ m / 2 := by rw [Nat.pow_succ, Nat.div_div_eq_div_mul]
theorem Kept.trans {v1 v2 v3 : Nat → Nat} {y1 y2 y3 : g_Y} (h : Kept v1 v2 y1 y2) (h' : Kept v2 v3 y2 y3) : Kept v1 v3 y1 y3 := ⟨fun i hi => by rw [h'.1 i hi, h.1 i hi], fun p hp => by rw [h'.2.1 p hp, h.2.1 p hp], by rw [h'.2.2, h.2.2]⟩
theorem RR.pre {v v1 : Nat → Nat} {y y1 : g_Y} {o : Option (Int32 × g_S)} {r : Int32 × g_Fr} (h : Kept v v1 y y1) (h' : RR K σb y1 v1 o r) : RR K σb y v o r := by
  obtain ⟨σ', y', v', e1, e2, e3, e4⟩ := h'
  exact ⟨σ', y', v', e1, e2, h.trans e3, e4⟩
theorem t_raiseL (hK : kOK K) {p N D b e : Nat} (hp : p < 16) (lN' : N < TOP) (lD' : D < TOP) (hb : b ≤ 1) (he : e < 16384) : ∀ (n m : Nat) (σ : g_S) (y : g_Y) (v : Nat → Nat), m < n → m ≤ 14 → St K σb σ y v → v (2 * p) = N → v (2 * p + 1) = D → y.1 p = b → v 32 = N ^ (e / 2 ^ m) → v 33 = D ^ (e / 2 ^ m) → v 32 < TOP → v 33 < TOP → y.1 16 = (if e / 2 ^ m % 2 = 1 then sz N b else 0) → RR K σb y v (LX4_raise_62 n σ (K.2.2.1 1) (K.2.1 p) (nI e) (nI m - 1)) (cPow (N, D, b) e) := by
  intro n
  induction n with
  | zero => intro m σ y v h; omega
  | succ n ih =>
    intro m σ y v hn hm S vN vD yb k1 k2 k3 k4 k5
    unfold LX4_raise_62
    cases m with
    | zero =>
      rw [if_pos (by decide)]
      rw [Nat.pow_zero, Nat.div_one] at k1 k2 k5
      refine ⟨σ, y, v, ?_, S, ⟨fun _ _ => rfl, fun _ _ => rfl, rfl⟩, ?_⟩
      · unfold cPow
        rw [if_pos ⟨by rw [← k1]; exact k3, by rw [← k2]; exact k4⟩]
      · intro _
        unfold cPow
        rw [if_pos ⟨by rw [← k1]; exact k3, by rw [← k2]; exact k4⟩]
        exact ⟨k1, k2, k5⟩
    | succ m =>
      have b16 : y.1 16 ≤ 1 := by rw [k5]; unfold sz; split <;> (try split) <;> omega
      rw [nI_pred, if_neg (nI_pos (by omega))]
      obtain ⟨σ1, v1, e1, S1, g1, g2, f1⟩ := t_grow hK S (r := 16) (by decide) k3 k4 k3 k4 b16 b16
      rw [show 2 * 16 = 32 from rfl, show 32 + 1 = 33 from rfl] at e1 g2
      rw [show 2 * 16 = 32 from rfl] at g1
      have hk := half_of e m
      obtain ⟨k, ek⟩ : ∃ k, k = e / 2 ^ (m + 1) := ⟨_, rfl⟩
      rw [← ek] at k1 k2 k5 hk
      have hke : e / 2 ^ m ≤ e := Nat.div_le_self _ _
      rw [k1, k2, ← Nat.pow_add, ← Nat.pow_add] at e1
      rw [k1, ← Nat.pow_add] at g1
      rw [k2, ← Nat.pow_add] at g2
      have y1 : ∀ r, r < 16 → va_up y.1 16 (sz (v 32 * v (2 * 16)) (bx (y.1 16) (y.1 16))) r = y.1 r := fun r hr => va_up_ne _ _ (by omega)
      have y2 : va_up y.1 16 (sz (v 32 * v (2 * 16)) (bx (y.1 16) (y.1 16))) 16 = 0 := by
        rw [va_up_self]; unfold sz bx; rw [if_pos rfl]; split <;> rfl
      generalize va_up y.1 16 (sz (v 32 * v (2 * 16)) (bx (y.1 16) (y.1 16))) = z at *
      have kp : Kept v v1 y (z, y.2) := ⟨f1, y1, rfl⟩
      simp only [rdR hK S, Option.bind_some, e1]
      by_cases hf : N ^ (k + k) < TOP ∧ D ^ (k + k) < TOP
      · rw [if_neg (by rw [if_pos hf]; decide), ja_shrK (by omega) (by omega)]
        have eb : nI (e / 2 ^ m) &&& 1 = nI (e / 2 ^ m % 2) := pk_andN (m := 1) (by omega) 1 (by decide)
        rw [eb]
        by_cases ho : e / 2 ^ m % 2 = 1
        · rw [if_pos (by rw [ho]; rfl)]
          have hk2 : e / 2 ^ m = k + k + 1 := by omega
          obtain ⟨σ2, v2, e2, S2, g3, g4, f2⟩ := t_grow hK S1 (r := p) (by omega) (by rw [g1]; exact hf.1) (by rw [g2]; exact hf.2) (by rw [f1 _ (by omega), vN]; exact lN') (by rw [f1 _ (by omega), vD]; exact lD') (by show z 16 ≤ 1; omega) (by show z p ≤ 1; rw [y1 p hp, yb]; exact hb)
          rw [g1, g2, f1 _ (by omega), f1 _ (by omega), vN, vD, ← Nat.pow_succ, ← Nat.pow_succ] at e2
          rw [g1, f1 _ (by omega), vN, ← Nat.pow_succ] at g3
          rw [g2, f1 _ (by omega), vD, ← Nat.pow_succ] at g4
          have y3 : ∀ r, r < 16 → va_up z 16 (sz (v1 32 * v1 (2 * p)) (bx (z 16) (z p))) r = z r := fun r hr => va_up_ne _ _ (by omega)
          have y4 : va_up z 16 (sz (v1 32 * v1 (2 * p)) (bx (z 16) (z p))) 16 = sz N b := by
            rw [va_up_self, y2, y1 p hp, yb, g1, f1 _ (by omega), vN]
            unfold sz bx
            rcases Nat.eq_zero_or_pos N with q | q
            · rw [if_pos q, if_pos (by rw [q, Nat.mul_zero])]
            · rw [if_neg (show ¬ N ^ (k + k) * N = 0 from Nat.ne_of_gt (Nat.mul_pos (Nat.pow_pos q) q)), if_neg (show ¬ N = 0 by omega)]
              rcases Nat.eq_zero_or_pos b with r | r
              · rw [if_pos r.symm, r]
              · rw [if_neg (by omega)]; omega
          have kp2 : Kept v1 v2 (z, y.2) (va_up z 16 (sz (v1 32 * v1 (2 * p)) (bx (z 16) (z p))), y.2) := ⟨f2, y3, rfl⟩
          have S2' : St K σb σ2 (va_up z 16 (sz (v1 32 * v1 (2 * p)) (bx (z 16) (z p))), y.2) v2 := S2
          generalize va_up z 16 (sz (v1 32 * v1 (2 * p)) (bx (z 16) (z p))) = z2 at *
          simp only [rdR hK S1, Option.bind_some, e2]
          by_cases hf2 : N ^ (k + k + 1) < TOP ∧ D ^ (k + k + 1) < TOP
          · rw [if_neg (by rw [if_pos hf2]; decide)]
            unfold BX4_raise_102
            simp only [g_let]
            rw [ja_m1]
            refine RR.pre (kp.trans kp2) (ih m σ2 _ v2 (by omega) (by omega) S2' (by rw [f2 _ (by omega), f1 _ (by omega), vN]) (by rw [f2 _ (by omega), f1 _ (by omega), vD]) (by show z2 p = b; rw [y3 p hp, y1 p hp, yb]) (by rw [g3, hk2]) (by rw [g4, hk2]) (by rw [g3]; exact hf2.1) (by rw [g4]; exact hf2.2) (by rw [if_pos ho]; exact y4))
          · rw [if_pos (by rw [if_neg hf2]), cPow_big hf2 (by omega)]
            exact RR.pre (kp.trans kp2) ⟨σ2, _, v2, rfl, S2', ⟨fun _ _ => rfl, fun _ _ => rfl, rfl⟩, fun h => absurd h (by decide)⟩
        · rw [if_neg (fun q => ho ((ja_e1 (by omega)).mp q))]
          have hk2 : e / 2 ^ m = k + k := by omega
          unfold BX4_raise_102
          simp only [g_let]
          rw [ja_m1]
          exact RR.pre kp (ih m σ1 _ v1 (by omega) (by omega) S1 (by rw [f1 _ (by omega), vN]) (by rw [f1 _ (by omega), vD]) (by show z p = b; rw [y1 p hp, yb]) (by rw [g1, hk2]) (by rw [g2, hk2]) (by rw [g1]; exact hf.1) (by rw [g2]; exact hf.2) (by rw [if_neg ho]; exact y2))
      · rw [if_pos (by rw [if_neg hf]), cPow_big hf (by omega)]
        exact RR.pre kp ⟨σ1, _, v1, rfl, S1, ⟨fun _ _ => rfl, fun _ _ => rfl, rfl⟩, fun h => absurd h (by decide)⟩
theorem RR.no {σ : g_S} {y : g_Y} {v : Nat → Nat} (S : St K σb σ y v) {a : Int32} (ha : a ≠ 0) (f : g_Fr) : RR K σb y v (some (a, σ)) (a, f) := ⟨σ, y, v, rfl, S, ⟨fun _ _ => rfl, fun _ _ => rfl, rfl⟩, fun h => absurd h ha⟩
theorem t_raise (hK : kOK K) {σ : g_S} {y : g_Y} {v : Nat → Nat} (S : St K σb σ y v) {p q : Nat} (hp : p < 16) (hq : q < 16) (hx : fOK (v (2 * p), v (2 * p + 1), y.1 p)) (hz : fOK (v (2 * q), v (2 * q + 1), y.1 q)) :
    RR K σb y v (fX4_raise σ (K.2.2.1 1) (K.2.1 p) (K.2.1 q)) (if v (2 * q + 1) = 1 ∧ y.1 q = 0 ∧ v (2 * q) ≤ 10000 then cPow (v (2 * p), v (2 * p + 1), y.1 p) (v (2 * q)) else (-1, 0, 1, 0)) := by
  obtain ⟨x1, x2, x3, x4, x5, x6⟩ := hx
  obtain ⟨z1, z2, z3, z4, z5, z6⟩ := hz
  simp only at x1 x2 x3 x4 x5 x6 z1 z2 z3 z4 z5 z6
  unfold fX4_raise BX4_raise_39
  simp only [rdF hK S (show q < 17 by omega), t_isWhole hK S (show q < 17 by omega), Option.bind_some]
  by_cases h1 : v (2 * q + 1) = 1
  · rw [if_neg (by rw [if_pos h1]; decide)]
    by_cases h2 : y.1 q = 0
    · rw [if_pos (by rw [h2]; rfl)]
      obtain ⟨n, s1, s2, s3⟩ := t_small hK S (i := 2 * q) (by omega)
      simp only [s1, Option.bind_some]
      rw [show (1 : Int32) = nI 1 from rfl, show (10000 : Int32) = nI 10000 from rfl]
      by_cases h3 : 1 < n
      · rw [if_pos (nI_lt h3 (by omega)), if_neg (fun w => by omega)]
        exact RR.no S (by decide) _
      · have hlt : v (2 * q) < 2147483648 := s3.mp (by omega)
        rw [if_neg (nI_nlt (by omega) (by omega))]
        have e0 := t_limb0 hK S (i := 2 * q) (by omega)
        rw [Nat.mod_eq_of_lt hlt] at e0
        simp only [S.n hK (show 2 * q < 45 by omega), e0, Option.bind_some, rdF hK S (show q < 17 by omega)]
        by_cases h4 : v (2 * q) ≤ 10000
        · rw [if_pos ((nI_leI (by omega) (by omega)).mpr h4), if_pos ⟨h1, h2, h4⟩]
          obtain ⟨σ1, e1, S1⟩ := t_long hK S (p := 16) (z := 1) (by decide) (by omega) (by omega)
          rw [show lZ 1 = 1 from rfl] at e1
          simp only [rdR hK S, rdG hK S, Option.bind_some, e1]
          rw [show (13 : Int32) = nI 14 - 1 from rfl]
          have ed : v (2 * q) / 2 ^ 14 = 0 := Nat.div_eq_of_lt (by omega)
          refine RR.pre ?_ (t_raiseL hK (e := v (2 * q)) (b := y.1 p) hp x1 x3 x5 (by omega) g_fuel 14 σ1 _ _ (fuel_ge (by omega)) (by omega) S1 (by rw [va_up_ne _ _ (by omega), va_up_ne _ _ (by omega)]) (by rw [va_up_ne _ _ (by omega), va_up_ne _ _ (by omega)]) (va_up_ne _ _ (by omega)) (by rw [va_up_ne _ _ (by omega), ed, Nat.pow_zero]; exact va_up_self _ _ _) (by rw [ed, Nat.pow_zero]; exact va_up_self _ _ _) ?_ ?_ ?_)
          · exact ⟨fun i hi => by rw [va_up_ne _ _ (by omega), va_up_ne _ _ (by omega)], fun r hr => va_up_ne _ _ (by omega), rfl⟩
          · rw [va_up_ne _ _ (by omega)]
            have := va_up_self v (2 * 16) (Int.natAbs 1)
            rw [show 2 * 16 = 32 from rfl] at this
            rw [show (2 * 16 : Nat) = 32 from rfl, this]
            exact TOP_1
          · have := va_up_self (va_up v (2 * 16) (Int.natAbs 1)) (2 * 16 + 1) 1
            rw [show 2 * 16 + 1 = 33 from rfl] at this
            rw [show (2 * 16 + 1 : Nat) = 33 from rfl, this]
            exact TOP_1
          · rw [ed]
            simp only [va_up_self]
            rfl
        · rw [if_neg (fun w => h4 ((nI_leI (by omega) (by omega)).mp w)), if_neg (fun w => h4 w.2.2)]
          exact RR.no S (by decide) _
    · rw [if_neg (fun w => h2 ((ja_e0 (by omega)).mp w)), if_neg (fun w => h2 w.2.1)]
      exact RR.no S (by decide) _
  · rw [if_pos (by rw [if_neg h1]), if_neg (fun w => h1 w.1)]
    exact RR.no S (by decide) _
end RM
