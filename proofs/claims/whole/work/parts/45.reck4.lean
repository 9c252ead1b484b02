/-! Reckoner: whole quotients, rounding, the calls' two entries, least terms -/
section RN
variable {K : g_Q9} {σb σ : g_S} {y : g_Y} {v : Nat → Nat}
theorem q_up {n m : Nat} (h : n % m ≠ 0) : n / m + 1 ≤ n := by
  rcases Nat.lt_or_ge m 2 with q | q
  · rcases Nat.eq_zero_or_pos m with r | r
    · subst r; rw [Nat.mod_zero] at h; rw [Nat.div_zero]; omega
    · rw [show m = 1 by omega, Nat.mod_one] at h; omega
  · have hn : 0 < n := by
      rcases Nat.eq_zero_or_pos n with r | r
      · rw [r, Nat.zero_mod] at h; omega
      · exact r
    have := Nat.div_lt_self hn q
    omega
theorem t_quot (hK : kOK K) (S : St K σb σ y v) {u fl : Nat} (hu : u ≤ 1) (hf : fl ≤ 1) (hl : v 34 + u < TOP) : ∃ σ' v', fX4_becomeQuotient σ (K.2.2.1 1) (nI u) (nI fl) = some σ' ∧ St K σb σ' (va_up y.1 16 (sz (v 34 + u) fl), y.2) v' ∧ v' 32 = v 34 + u ∧ v' 33 = 1 ∧ ∀ i, i < 32 → v' i = v i := by
  have i34 : (34 : Nat) < 45 := by decide
  unfold fX4_becomeQuotient BX4_becomeQuotient_16
  rcases Nat.eq_zero_or_pos u with q | q
  · subst q
    obtain ⟨σ1, e1, S1⟩ := t_whole hK S (p := 16) (i := 34) (n := fl) (by decide) i34 (by decide) (by omega) hf
    refine ⟨σ1, _, ?_, S1, ?_, ?_, fun i hi => by rw [va_up_ne _ _ (by omega), va_up_ne _ _ (by omega)]⟩
    · rw [if_pos (show nI 0 = 0 from rfl)]
      simp only [rdR hK S, rdG hK S, Option.bind_some, e1]
    · rw [va_up_ne _ _ (by omega)]
      exact va_up_self _ _ _
    · exact va_up_self _ _ _
  · have q1 : u = 1 := by omega
    subst q1
    obtain ⟨σ1, e1, S1⟩ := t_mul hK S (i := 34) (F := 1) (c0 := 1) i34 (TOP_WB (by omega)) (hK.2.1 34 (by omega)) (by omega) (by omega)
    rw [Nat.mul_one] at S1
    obtain ⟨σ2, e2, S2⟩ := t_whole hK S1 (p := 16) (i := 34) (n := fl) (by decide) i34 (by decide) (by rw [va_up_self]; exact hl) hf
    rw [va_up_self] at S2
    refine ⟨σ2, _, ?_, S2, ?_, ?_, fun i hi => by rw [va_up_ne _ _ (by omega), va_up_ne _ _ (by omega), va_up_ne _ _ (by omega)]⟩
    · rw [if_neg (show ¬ nI 1 = 0 by decide), show (1 : Int32) = nI 1 from rfl]
      simp only [rdR hK S, Option.bind_some, S.n hK i34, e1, rdR hK S1, rdG hK S1, e2]
    · rw [va_up_ne _ _ (by omega)]
      exact va_up_self _ _ _
    · exact va_up_self _ _ _
theorem t_cwhole (hK : kOK K) (S : St K σb σ y v) {p q : Nat} {op : Int32} (hp : p < 16) (hq : q < 16) (hx : fOK (v (2 * p), v (2 * p + 1), y.1 p)) (hz : fOK (v (2 * q), v (2 * q + 1), y.1 q)) :
    RR K σb y v (fX4_combineWhole σ (K.2.2.1 1) (K.2.1 p) (K.2.1 q) op) (if v (2 * p + 1) = 1 ∧ v (2 * q + 1) = 1 then (if op = 6 then (0, Nat.gcd (v (2 * p)) (v (2 * q)), 1, 0) else if v (2 * q) = 0 then (-2, 0, 1, 0) else if op = 4 then (0, cQuo (v (2 * p)) (v (2 * q)) (y.1 p) (y.1 q), 1, sz (cQuo (v (2 * p)) (v (2 * q)) (y.1 p) (y.1 q)) (bx (y.1 p) (y.1 q))) else (0, cRem (v (2 * p)) (v (2 * q)) (y.1 p) (y.1 q), 1, sz (cRem (v (2 * p)) (v (2 * q)) (y.1 p) (y.1 q)) (y.1 q))) else (-1, 0, 1, 0)) := by
  obtain ⟨x1, x2, x3, x4, x5, x6⟩ := hx
  obtain ⟨z1, z2, z3, z4, z5, z6⟩ := hz
  simp only at x1 x2 x3 x4 x5 x6 z1 z2 z3 z4 z5 z6
  have i32 : (32 : Nat) < 45 := by decide
  have i34 : (34 : Nat) < 45 := by decide
  have i35 : (35 : Nat) < 45 := by decide
  have i37 : (37 : Nat) < 45 := by decide
  have i42 : (42 : Nat) < 45 := by decide
  have p17 : p < 17 := by omega
  have q17 : q < 17 := by omega
  unfold fX4_combineWhole BX4_combineWhole_14
  simp only [rdF hK S p17, rdF hK S q17, t_isWhole hK S p17, t_isWhole hK S q17, Option.bind_some]
  by_cases h1 : v (2 * p + 1) = 1
  · rw [if_neg (by rw [if_pos h1]; decide)]
    by_cases h2 : v (2 * q + 1) = 1
    · rw [if_neg (by rw [if_pos h2]; decide), if_pos (show v (2 * p + 1) = 1 ∧ v (2 * q + 1) = 1 from ⟨h1, h2⟩)]
      by_cases h6 : op = 6
      · rw [if_pos h6, if_pos h6]
        obtain ⟨σ1, v1, e1, S1, g1, f1⟩ := t_cd hK S (p := 2 * p) (q := 2 * q) (by omega) (by omega) (by omega) (by omega) (TOP_WB x1) (TOP_WB z1)
        have hle : v1 37 < TOP := by
          rw [g1]
          rcases Nat.eq_zero_or_pos (v (2 * p)) with r | r
          · rw [r, Nat.gcd_zero_left]; exact z1
          · have := Nat.gcd_le_left (v (2 * q)) r; omega
        obtain ⟨σ2, e2, S2⟩ := t_whole hK S1 (p := 16) (i := 37) (n := 0) (by decide) i37 (by decide) hle (by omega)
        refine ⟨σ2, _, _, ?_, S2, ⟨fun i hi => by rw [va_up_ne _ _ (by omega), va_up_ne _ _ (by omega), f1 i (by omega)], fun r hr => va_up_ne _ _ (by omega), rfl⟩, fun _ => ⟨?_, va_up_self _ _ _, ?_⟩⟩
        · rw [nI_0] at e2
          simp only [rdR hK S, e1, Option.bind_some, rdG hK S1, e2]
        · rw [va_up_ne _ _ (by omega)]
          exact (va_up_self _ _ _).trans g1
        · show va_up y.1 16 _ 16 = _
          rw [va_up_self]; split <;> rfl
      · rw [if_neg h6, if_neg h6]
        simp only [S.n hK (show 2 * q < 45 by omega), t_isZero hK S (show 2 * q < 45 by omega), Option.bind_some]
        by_cases h0 : v (2 * q) = 0
        · rw [if_neg (by rw [if_pos h0]; decide), if_pos h0]
          exact RR.no S (by decide) _
        · rw [if_pos (by rw [if_neg h0]), if_neg h0]
          obtain ⟨σ1, v1, e1, S1, g1, g2, f1⟩ := t_divide hK S (p := 2 * p) (q := 2 * q) (by omega) (by omega) (by omega) (by omega) (TOP_WB x1) (TOP_WB z1)
          simp only [rdR hK S, e1, Option.bind_some, rdF hK S1 p17, rdF hK S1 q17, rdF hK S p17, rdF hK S q17]
          have k1 : ∀ i, i < 32 → v1 i = v i := fun i hi => f1 i (by omega)
          have rlt : v (2 * p) % v (2 * q) < v (2 * q) := Nat.mod_lt _ (by omega)
          generalize en : v (2 * p) = n at *
          generalize em : v (2 * q) = m at *
          -- the last part, for u = 1 where the quotient is uneven
          have last : ∀ u, u ≤ 1 → (u = 0 ↔ y.1 p = y.1 q ∨ n % m = 0) → RR K σb y v (BX4_combineWhole_104 σ1 (K.2.2.1 1) (K.2.1 p) (K.2.1 q) op (nI u)) (if op = 4 then (0, cQuo n m (y.1 p) (y.1 q), 1, sz (cQuo n m (y.1 p) (y.1 q)) (bx (y.1 p) (y.1 q))) else (0, cRem n m (y.1 p) (y.1 q), 1, sz (cRem n m (y.1 p) (y.1 q)) (y.1 q))) := by
            intro u hu hu0
            unfold BX4_combineWhole_104 BX4_combineWhole_130 BX4_combineWhole_195
            have hq' : cQuo n m (y.1 p) (y.1 q) = v1 34 + u := by
              unfold cQuo
              rw [g1]
              by_cases hc : y.1 p = y.1 q ∨ n % m = 0
              · rw [if_pos hc, hu0.mpr hc]; rfl
              · rw [if_neg hc, show u = 1 by have : u ≠ 0 := fun w => hc (hu0.mp w)
                                             omega]
            have hbnd : v1 34 + u < TOP := by
              rw [g1]
              rcases Nat.eq_zero_or_pos u with r | r
              · have := Nat.div_le_self n m; omega
              · have hr : n % m ≠ 0 := fun w => by have := hu0.mpr (Or.inr w); omega
                have := q_up hr
                omega
            by_cases h4 : op = 4
            · rw [if_pos h4, if_pos h4]
              simp only [rdF hK S1 p17, rdF hK S1 q17, Option.bind_some, rdR hK S1]
              have hbx : bx (y.1 p) (y.1 q) ≤ 1 := by unfold bx; split <;> omega
              obtain ⟨σ2, v2, e2, S2, g3, g4, f2⟩ := t_quot hK S1 hu hbx hbnd
              refine ⟨σ2, _, v2, ?_, S2, ⟨fun i hi => by rw [f2 i hi, k1 i hi], fun r hr => va_up_ne _ _ (by omega), rfl⟩, fun _ => ⟨by rw [g3, hq'], g4, ?_⟩⟩
              · by_cases hb : y.1 p = y.1 q
                · rw [if_pos (by rw [hb])]
                  unfold bx at e2
                  rw [if_pos hb, nI_0] at e2
                  rw [e2]; rfl
                · rw [if_neg (fun w => hb ((nI_bx x5 z5).mp w))]
                  unfold bx at e2
                  rw [if_neg hb] at e2
                  rw [show (1 : Int32) = nI 1 from rfl, e2]; rfl
              · simp only [va_up_self, hq']
            · rw [if_neg h4, if_neg h4]
              have hr' : cRem n m (y.1 p) (y.1 q) = if u = 0 then n % m else m - n % m := by
                unfold cRem
                by_cases hc : y.1 p = y.1 q ∨ n % m = 0
                · rw [if_pos hc, if_pos (hu0.mpr hc)]
                · rw [if_neg hc, if_neg (fun w => hc (hu0.mp w))]
              by_cases hu1 : u = 0
              · subst hu1
                rw [if_pos rfl] at hr'
                obtain ⟨σ2, e2, S2⟩ := t_whole hK S1 (p := 16) (i := 35) (n := y.1 q) (by decide) i35 (by decide) (by rw [g2]; omega) z5
                refine ⟨σ2, _, _, ?_, S2, ⟨fun i hi => by rw [va_up_ne _ _ (by omega), va_up_ne _ _ (by omega), k1 i hi], fun r hr => va_up_ne _ _ (by omega), rfl⟩, fun _ => ⟨?_, va_up_self _ _ _, ?_⟩⟩
                · rw [if_pos (show nI 0 = 0 from rfl)]
                  simp only [rdR hK S1, rdG hK S1, rdF hK S1 q17, Option.bind_some, e2]
                · rw [va_up_ne _ _ (by omega), hr']
                  exact (va_up_self _ _ _).trans g2
                · show va_up y.1 16 _ 16 = _
                  rw [va_up_self, hr', g2]; rfl
              · rw [if_neg hu1] at hr'
                have km : v1 (2 * q) = m := by rw [k1 _ (by omega), em]
                obtain ⟨σ2, e2, S2⟩ := t_dif hK S1 (i := 42) (p := 2 * q) (q := 35) i42 (by omega) i35 (by omega) (by decide) (TOP_WB (by rw [km]; exact z1)) (by rw [km, g2]; omega) (hK.2.1 42 (by omega))
                rw [km, g2] at S2
                obtain ⟨σ3, e3, S3⟩ := t_whole hK S2 (p := 16) (i := 42) (n := y.1 q) (by decide) i42 (by decide) (by rw [va_up_self]; omega) z5
                refine ⟨σ3, _, _, ?_, S3, ⟨fun i hi => by rw [va_up_ne _ _ (by omega), va_up_ne _ _ (by omega), va_up_ne _ _ (by omega), k1 i hi], fun r hr => va_up_ne _ _ (by omega), rfl⟩, fun _ => ⟨?_, va_up_self _ _ _, ?_⟩⟩
                · rw [if_neg (fun w => hu1 ((ja_e0 (by omega)).mp w))]
                  simp only [rdR hK S1, rdF hK S1 q17, S1.n hK i42, Option.bind_some, e2, rdR hK S2, rdG hK S2, rdF hK S2 q17, e3]
                · rw [va_up_ne _ _ (by omega), hr']
                  exact (va_up_self _ _ _).trans (va_up_self _ _ _)
                · show va_up y.1 16 _ 16 = _
                  rw [va_up_self, hr', va_up_self]; rfl
          have z0 : nI 0 = 0 := nI_0
          unfold BX4_combineWhole_103
          by_cases hb : y.1 p = y.1 q
          · rw [if_pos (by rw [hb]), ← z0]
            exact last 0 (by omega) ⟨fun _ => Or.inl hb, fun _ => rfl⟩
          · rw [if_neg (fun w => hb ((nI_bx x5 z5).mp w))]
            simp only [rdR hK S1, Option.bind_some, S1.n hK i35, t_isZero hK S1 i35, g2]
            by_cases hr : n % m = 0
            · rw [if_neg (by rw [if_pos hr]; decide), ← z0]
              exact last 0 (by omega) ⟨fun _ => Or.inr hr, fun _ => rfl⟩
            · rw [if_pos (by rw [if_neg hr])]
              exact last 1 (by omega) ⟨fun w => by omega, fun w => by rcases w with w | w; exact absurd w hb; exact absurd w hr⟩
    · rw [if_pos (by rw [if_neg h2]), if_neg (fun w => h2 w.2)]
      exact RR.no S (by decide) _
  · rw [if_pos (by rw [if_neg h1]), if_neg (fun w => h1 w.1)]
    exact RR.no S (by decide) _
theorem RR.id {o : Option (Int32 × g_S)} {r : Int32 × g_Fr} (h : RR K σb y v o r) : RR K σb y v (o.bind fun r3 => some (r3.1, r3.2)) r := by
  obtain ⟨σ', y', v', e1, e2, e3, e4⟩ := h
  exact ⟨σ', y', v', by rw [e1]; rfl, e2, e3, e4⟩
theorem t_combine (hK : kOK K) (S : St K σb σ y v) {p q : Nat} {op : Int32} (hp : p < 16) (hq : q < 16) (hx : fOK (v (2 * p), v (2 * p + 1), y.1 p)) (hz : fOK (v (2 * q), v (2 * q + 1), y.1 q)) :
    RR K σb y v (fX4_combine σ (K.2.2.1 1) (K.2.1 p) (K.2.1 q) op) (spC (v (2 * p), v (2 * p + 1), y.1 p) (v (2 * q), v (2 * q + 1), y.1 q) op) := by
  have p17 : p < 17 := by omega
  have q17 : q < 17 := by omega
  have z5 : y.1 q ≤ 1 := hz.2.2.2.2.1
  have cw := t_cwhole hK S (op := op) hp hq hx hz
  unfold fX4_combine spC
  by_cases h0 : op = 0
  · rw [if_pos h0, if_pos h0]
    simp only [rdF hK S q17, rdR hK S, Option.bind_some]
    exact (t_add hK S hp hq hx hz z5).id
  rw [if_neg h0, if_neg h0]
  by_cases h1 : op = 1
  · rw [if_pos h1, if_pos h1]
    unfold BX4_combine_82
    simp only [rdF hK S q17, rdR hK S, Option.bind_some]
    by_cases hb : y.1 q = 0
    · rw [if_pos (by rw [hb]; rfl), hb]
      exact (t_add hK S hp hq hx hz (b2 := 1) (by omega)).id
    · rw [if_neg (fun w => hb ((ja_e0 (by omega)).mp w)), show 1 - y.1 q = 0 by omega, ← nI_0]
      exact (t_add hK S hp hq hx hz (b2 := 0) (by omega)).id
  rw [if_neg h1, if_neg h1]
  by_cases h2 : op = 2
  · rw [if_pos h2, if_pos h2]
    simp only [rdF hK S q17, rdR hK S, Option.bind_some]
    exact (t_multiply hK S hp (i := 2 * q) (j := 2 * q + 1) (by omega) (by omega) hx hz.1 hz.2.2.1 hz.2.2.2.1 hz.2.1 z5).id
  rw [if_neg h2, if_neg h2]
  by_cases h3 : op = 3
  · rw [if_pos h3, if_pos h3]
    simp only [rdF hK S q17, rdR hK S, Option.bind_some, S.n hK (show 2 * q < 45 by omega), t_isZero hK S (show 2 * q < 45 by omega)]
    unfold BX4_combine_136
    by_cases hn : v (2 * q) = 0
    · rw [if_neg (by rw [if_pos hn]; decide), if_pos hn]
      exact RR.no S (by decide) _
    · rw [if_pos (by rw [if_neg hn]), if_neg hn]
      exact (t_multiply hK S hp (i := 2 * q + 1) (j := 2 * q) (by omega) (by omega) hx hz.2.2.1 hz.1 (by rw [Nat.gcd_comm]; exact hz.2.2.2.1) (by omega) z5).id
  rw [if_neg h3, if_neg h3]
  by_cases h4 : op = 4
  · rw [if_pos h4, if_pos h4]
    rw [if_neg (show ¬ op = 6 by rw [h4]; decide), if_pos h4] at cw
    simp only [rdR hK S]
    exact cw.id
  rw [if_neg h4, if_neg h4]
  by_cases h5 : op = 5
  · rw [if_pos h5, if_pos h5]
    rw [if_neg (show ¬ op = 6 by rw [h5]; decide), if_neg h4] at cw
    simp only [rdR hK S]
    exact cw.id
  rw [if_neg h5, if_neg h5]
  by_cases h6 : op = 6
  · rw [if_pos h6, if_pos h6]
    rw [if_pos h6] at cw
    simp only [rdR hK S]
    exact cw.id
  rw [if_neg h6, if_neg h6]
  by_cases h7 : op = 7
  · rw [if_pos h7, if_pos h7]
    simp only [rdR hK S]
    exact (t_raise hK S hp hq hx hz).id
  rw [if_neg h7, if_neg h7]
  obtain ⟨σ1, v1, e1, S1, f1⟩ := t_orderF hK S hp hq hx hz
  have cho : ∀ r, r < 16 → fOK (v (2 * r), v (2 * r + 1), y.1 r) → RR K σb y v ((fX4_choose σ1 (K.2.2.1 1) (K.2.1 r)).bind fun r34 => some (r34.1, r34.2)) (0, v (2 * r), v (2 * r + 1), y.1 r) := by
    intro r hr hw
    have k1 : v1 (2 * r) = v (2 * r) := f1 _ (by omega)
    have k2 : v1 (2 * r + 1) = v (2 * r + 1) := f1 _ (by omega)
    obtain ⟨σ2, e2, S2⟩ := t_choose hK S1 hr (by rw [k1, k2]; exact hw)
    rw [k1, k2] at S2
    refine ⟨σ2, _, _, by rw [e2]; rfl, S2, ⟨fun i hi => by rw [va_up_ne _ _ (by omega), va_up_ne _ _ (by omega), f1 i (by omega)], fun r hr => va_up_ne _ _ (by omega), rfl⟩, fun _ => ⟨?_, va_up_self _ _ _, ?_⟩⟩
    · rw [va_up_ne _ _ (by omega)]
      exact va_up_self _ _ _
    · simp only [va_up_self]
  by_cases h8 : op = 8
  · rw [if_pos h8, if_pos h8]
    unfold BX4_combine_167
    simp only [rdR hK S, e1, Option.bind_some, rdR hK S1]
    by_cases hc : 0 < cOrd (v (2 * p), v (2 * p + 1), y.1 p) (v (2 * q), v (2 * q + 1), y.1 q)
    · rw [if_pos hc, if_pos hc]
      exact cho q hq hz
    · rw [if_neg hc, if_neg hc]
      exact cho p hp hx
  rw [if_neg h8, if_neg h8]
  by_cases h9 : op = 9
  · rw [if_pos h9, if_pos h9]
    unfold BX4_combine_186
    simp only [rdR hK S, e1, Option.bind_some, rdR hK S1]
    by_cases hc : cOrd (v (2 * p), v (2 * p + 1), y.1 p) (v (2 * q), v (2 * q + 1), y.1 q) < 0
    · rw [if_pos hc, if_pos hc]
      exact cho q hq hz
    · rw [if_neg hc, if_neg hc]
      exact cho p hp hx
  rw [if_neg h9, if_neg h9]
  exact RR.no S (by decide) _
end RN
