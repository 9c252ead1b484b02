/-! the tape's numbers -/
section TB
variable {K : g_Q9} {σb : g_S} {tn : Nat → Nat} {bl : Nat → Nat} {tl : Nat} {tb : Nat → Int32} {x : Nat × (Nat → Int32)}
theorem ten_le {m : Nat} (h : m ≤ 9) : 10 ^ m < 2147483648 := by
  have : 10 ^ m ≤ 10 ^ 9 := Nat.pow_le_pow_right (by decide) h
  have e : (10 : Nat) ^ 9 = 1000000000 := by decide
  omega
theorem t_groupL (hK : kOK K) {i k : Nat} (hi : i < 45) (hw : 136 ≤ K.1.2.2 i) {v : Nat → Nat} (hv : v i < TOP) (hT : ∀ a, TP (bl, (tl, a, tb), x) tn) :
    ∀ (n j : Nat) (σ : g_S), 9 - j < n → j ≤ 9 → St K σb σ (bl, (tl, k + j, tb), x) v → (∀ q, q < j → k + q < tl ∧ isD (tn (k + q))) → k + j ≤ 1400 →
      ∃ σ' m, LX5_takeGroup_7 n σ (K.2.2.1 4) (K.1.1 i) (nI (dv tn k j)) (nI (10 ^ j)) (nI j) = some σ' ∧ (∀ q, q < m → k + q < tl ∧ isD (tn (k + q))) ∧ (m = 9 ∨ ¬ (k + m < tl ∧ isD (tn (k + m)))) ∧ St K σb σ' (bl, (tl, k + m, tb), x) (va_up v i (v i * 10 ^ m + dv tn k m)) ∧ k + m ≤ 1400 := by
  intro n
  induction n with
  | zero => intro j σ h; omega
  | succ n ih =>
    intro j σ hn hj S hd h14
    have hl := dv_lt (tn := tn) (k := k) (n := j) (fun q hq => (hd q hq).2)
    have h10 := ten_le hj
    have hend : ∃ σ', BX5_takeGroup_60 σ (K.1.1 i) (nI (dv tn k j)) (nI (10 ^ j)) = some σ' ∧ St K σb σ' (bl, (tl, k + j, tb), x) (va_up v i (v i * 10 ^ j + dv tn k j)) := by
      obtain ⟨σ1, e1, S1⟩ := t_mul hK S hi (TOP_WB hv) hw h10 (show dv tn k j < 2147483648 by omega)
      refine ⟨σ1, ?_, S1⟩
      unfold BX5_takeGroup_60
      simp only [S.n hK hi, e1, Option.bind_some]
    unfold LX5_takeGroup_7
    rw [show (9 : Int32) = nI 9 from rfl]
    by_cases h9 : j = 9
    · rw [if_pos (nI_le (by omega) (by omega))]
      obtain ⟨σ1, e1, S1⟩ := hend
      exact ⟨σ1, j, e1, hd, Or.inl h9, S1, h14⟩
    · rw [if_neg (nI_ge (by omega) (by omega))]
      obtain ⟨r, er, hr⟩ := (t_isD hK S (hT (k + j)) h14 (none : Option Nat) none).2
      simp only at hr
      simp only [rdT hK S, er, Option.bind_some]
      by_cases hdig : k + j < tl ∧ isD (tn (k + j))
      · obtain ⟨t3, t4⟩ := (hT (k + j)).2 (k + j) hdig.1
        simp only at t4
        have htl : tl ≤ 1400 := (hT 0).1
        have e9 := (sb_all _ t3).2.2.2 hdig.2
        have d1 : 48 ≤ tn (k + j) := hdig.2.1
        rw [if_neg (fun w => hr.mp w hdig)]
        simp only [t_getT hK S (show k + j < 1400 by omega), Option.bind_some, t4, e9, g_let]
        rw [nI_1 (k + j)]
        obtain ⟨σ1, e1, S1⟩ := t_putT2 hK S (k + j + 1)
        simp only [e1, Option.bind_some]
        have c1 : 10 * nI (dv tn k j) + nI (tn (k + j)) - 48 = nI (dv tn k (j + 1)) := by
          rw [show (10 : Int32) = nI 10 from rfl, pk_mul, nI_add, show (48 : Int32) = nI 48 from rfl, pk_sub (by omega)]
          congr 1
          show _ = dv tn k j * 10 + (tn (k + j) - 48)
          omega
        have c2 : nI (10 ^ j) * 10 = nI (10 ^ (j + 1)) := by
          rw [show (10 : Int32) = nI 10 from rfl, pk_mul, Nat.pow_succ]
        rw [c1, c2, nI_1]
        obtain ⟨σ', m, f1, f2, f3, f4, f5⟩ := ih (j + 1) σ1 (by omega) (by omega) S1 (fun q hq => by
          rcases Nat.lt_or_ge q j with w | w
          · exact hd q w
          · rw [show q = j by omega]; exact hdig) (by omega)
        exact ⟨σ', m, f1, f2, f3, f4, f5⟩
      · rw [if_pos (hr.mpr hdig)]
        obtain ⟨σ1, e1, S1⟩ := hend
        exact ⟨σ1, j, e1, hd, Or.inr hdig, S1, h14⟩
theorem DR_le {c k : Nat} (h : ∀ q, q < c → k + q < tl ∧ isD (tn (k + q))) : c ≤ rlen tn tl k := by
  rcases Nat.lt_or_ge (rlen tn tl k) c with q | q
  · exact absurd (h _ q) (rlen_is tn tl k).2
  · exact q
theorem t_natX (hK : kOK K) {i st c : Nat} (hi : i < 45) {σ : g_S} {v : Nat → Nat} (S : St K σb σ (bl, (tl, st + c, tb), x) v) (hd : ∀ q, q < c → st + q < tl ∧ isD (tn (st + q))) (hv : v i = dv tn st c) (hc : c = rlen tn tl st ∨ TOP ≤ dv tn st c) (h14 : st + c ≤ 1400) :
    BX5_takeNatural_44 σ (K.2.2.1 4) (K.1.1 i) (nI st) = some (if 0 < rlen tn tl st ∧ dv tn st (rlen tn tl st) < TOP then 1 else 0, σ) := by
  have hle := DR_le hd
  have hT1 := TOP_1
  obtain ⟨m, hm⟩ : ∃ m, rlen tn tl st = c + m := ⟨rlen tn tl st - c, by omega⟩
  have hmono := dv_mono tn st c m
  rw [← hm] at hmono
  unfold BX5_takeNatural_44 BX5_takeNatural_63 BX5_takeNatural_64
  simp only [rdT hK S, Option.bind_some]
  by_cases h0 : c = 0
  · rw [if_pos (nI_le (by omega) (by omega))]
    have hR : ¬ 0 < rlen tn tl st := by
      rcases hc with q | q
      · omega
      · rw [h0] at q
        have : dv tn st 0 = 0 := rfl
        omega
    rw [if_neg (fun w => hR w.1)]
    exact g_if_pos (by simp)
  · rw [if_neg (nI_ge (by omega) (by omega))]
    simp only [S.n hK hi, t_fits hK S hi, Option.bind_some, hv]
    by_cases hf : dv tn st c < TOP
    · rw [if_neg (by rw [if_pos hf]; decide)]
      have hcR : c = rlen tn tl st := by rcases hc with q | q; exact q; omega
      rw [if_pos ⟨by omega, by rw [← hcR]; exact hf⟩]
      exact g_if_pos (by simp)
    · rw [if_pos (by rw [if_neg hf]), if_neg (fun w => by omega)]
      exact g_if_pos (by simp)
theorem t_natL (hK : kOK K) {i st : Nat} (hi : i < 45) (hw : 136 ≤ K.1.2.2 i) (hT : ∀ a, TP (bl, (tl, a, tb), x) tn) :
    ∀ (n t c : Nat) (σ : g_S) (v : Nat → Nat), 1400 - t < n → t ≤ 1400 → t ≤ c → St K σb σ (bl, (tl, st + c, tb), x) v → (∀ q, q < c → st + q < tl ∧ isD (tn (st + q))) → v i = dv tn st c → st + c ≤ 1400 →
      ∃ σ' c' v', LX5_takeNatural_12 n σ (K.2.2.1 4) (K.1.1 i) (nI st) (nI t) = some (if 0 < rlen tn tl st ∧ dv tn st (rlen tn tl st) < TOP then 1 else 0, σ') ∧ St K σb σ' (bl, (tl, st + c', tb), x) v' ∧ st + c' ≤ 1400 ∧ (dv tn st (rlen tn tl st) < TOP → c' = rlen tn tl st ∧ v' i = dv tn st (rlen tn tl st)) ∧ ∀ j, j ≠ i → v' j = v j := by
  have htl : tl ≤ 1400 := (hT 0).1
  intro n
  induction n with
  | zero => intro t c σ v h; omega
  | succ n ih =>
    intro t c σ v hn ht htc S hd hv h14
    have stop : (c = rlen tn tl st ∨ TOP ≤ dv tn st c) → ∃ σ' c' v', BX5_takeNatural_44 σ (K.2.2.1 4) (K.1.1 i) (nI st) = some (if 0 < rlen tn tl st ∧ dv tn st (rlen tn tl st) < TOP then 1 else 0, σ') ∧ St K σb σ' (bl, (tl, st + c', tb), x) v' ∧ st + c' ≤ 1400 ∧ (dv tn st (rlen tn tl st) < TOP → c' = rlen tn tl st ∧ v' i = dv tn st (rlen tn tl st)) ∧ ∀ j, j ≠ i → v' j = v j := by
      intro hc
      refine ⟨σ, c, v, t_natX hK hi S hd hv hc h14, S, h14, fun w => ?_, fun _ _ => rfl⟩
      have hle := DR_le hd
      obtain ⟨m, hm⟩ : ∃ m, rlen tn tl st = c + m := ⟨rlen tn tl st - c, by omega⟩
      have hmono := dv_mono tn st c m
      rw [← hm] at hmono
      have : c = rlen tn tl st := by rcases hc with q | q; exact q; omega
      exact ⟨this, by rw [hv, ← this]⟩
    unfold LX5_takeNatural_12
    rw [show (1400 : Int32) = nI 1400 from rfl]
    by_cases h1 : t = 1400
    · rw [if_pos (nI_le (by omega) (by omega))]
      exact stop (Or.inl (DR_uniq ⟨hd, fun w => by omega⟩ (rlen_is tn tl st)))
    · rw [if_neg (nI_ge (by omega) (by omega))]
      obtain ⟨r, er, hr⟩ := (t_isD hK S (hT (st + c)) h14 (none : Option Nat) none).2
      simp only at hr
      simp only [rdT hK S, er, Option.bind_some]
      by_cases hdig : st + c < tl ∧ isD (tn (st + c))
      · rw [if_neg (fun w => hr.mp w hdig)]
        simp only [S.n hK hi, t_fits hK S hi, Option.bind_some, hv]
        by_cases hf : dv tn st c < TOP
        · rw [if_neg (by rw [if_pos hf]; decide)]
          obtain ⟨σ1, m, f1, f2, f3, f4, f5⟩ := t_groupL hK (k := st + c) hi hw (by rw [hv]; exact hf) hT g_fuel 0 σ (fuel_ge (by omega)) (by omega) S (fun q hq => by omega) h14
          have hm0 : 0 < m := by
            rcases Nat.eq_zero_or_pos m with q | q
            · rcases f3 with w | w
              · omega
              · rw [q] at w; exact absurd hdig w
            · exact q
          have e0 : fX5_takeGroup σ (K.2.2.1 4) (K.1.1 i) = some σ1 := f1
          simp only [rdT hK S, e0, Option.bind_some, g_let]
          rw [nI_1]
          rw [Nat.add_assoc] at f4
          clear stop
          have b1 : 1400 - (t + 1) < n := by omega
          have b2 : t + 1 ≤ 1400 := by omega
          have b3 : t + 1 ≤ c + m := by omega
          have b4 : st + (c + m) ≤ 1400 := by omega
          obtain ⟨σ', c', v', g1, g2, g3, g4, g5⟩ := ih (t + 1) (c + m) σ1 (va_up v i (v i * 10 ^ m + dv tn (st + c) m)) b1 b2 b3 f4 (fun q hq => by
            rcases Nat.lt_or_ge q c with w | w
            · exact hd q w
            · have := f2 (q - c) (by omega)
              rw [show st + c + (q - c) = st + q by omega] at this
              exact this) (by rw [va_up_self, hv, dv_add]) b4
          exact ⟨σ', c', v', g1, g2, g3, g4, fun j hj => by rw [g5 j hj, va_up_ne _ _ hj]⟩
        · rw [if_pos (by rw [if_neg hf])]
          exact stop (Or.inr (by omega))
      · rw [if_pos (hr.mpr hdig)]
        exact stop (Or.inl (DR_uniq ⟨hd, hdig⟩ (rlen_is tn tl st)))
theorem t_nat (hK : kOK K) {i st : Nat} (hi : i < 45) (hw : 136 ≤ K.1.2.2 i) (hT : ∀ a, TP (bl, (tl, a, tb), x) tn) {σ : g_S} {v : Nat → Nat} (S : St K σb σ (bl, (tl, st, tb), x) v) (h14 : st ≤ 1400) :
    ∃ σ' c' v', fX5_takeNatural σ (K.2.2.1 4) (K.1.1 i) = some (if 0 < rlen tn tl st ∧ dv tn st (rlen tn tl st) < TOP then 1 else 0, σ') ∧ St K σb σ' (bl, (tl, st + c', tb), x) v' ∧ st + c' ≤ 1400 ∧ (dv tn st (rlen tn tl st) < TOP → c' = rlen tn tl st ∧ v' i = dv tn st (rlen tn tl st)) ∧ ∀ j, j ≠ i → v' j = v j := by
  obtain ⟨σ1, e1, S1⟩ := t_zero hK S hi
  obtain ⟨σ', c', v', g1, g2, g3, g4, g5⟩ := t_natL hK (i := i) (st := st) hi hw hT g_fuel 0 0 σ1 _ (fuel_ge (by omega)) (by omega) (by omega) S1 (fun q hq => by omega) (va_up_self _ _ _) h14
  refine ⟨σ', c', v', ?_, g2, g3, g4, fun j hj => by rw [g5 j hj, va_up_ne _ _ hj]⟩
  unfold fX5_takeNatural
  simp only [rdT hK S, Option.bind_some, e1]
  exact g1
theorem t_frac (hK : kOK K) (hT : ∀ bl a, TP (bl, (tl, a, tb), x) tn) {σ : g_S} {v : Nat → Nat} {ta : Nat} (S : St K σb σ (bl, (tl, ta, tb), x) v) :
    ∃ σ' bl' ta' v', fX5_takeFraction σ (K.2.2.1 4) (K.2.1 16) = some (if (spT tn tl).isSome then 1 else 0, σ') ∧ St K σb σ' (bl', (tl, ta', tb), x) v' ∧ (∀ i, i < 32 → v' i = v i) ∧ (∀ p, p < 16 → bl' p = bl p) ∧ ∀ f, spT tn tl = some f → v' 32 = f.1 ∧ v' 33 = f.2.1 ∧ bl' 16 = sz f.1 f.2.2 := by
  have i32 : (32 : Nat) < 45 := by decide
  have i33 : (33 : Nat) < 45 := by decide
  have htl : tl ≤ 1400 := (hT bl 0).1
  obtain ⟨σ1, e1, S1⟩ := t_putT2 hK S 0
  obtain ⟨σ2, e2, S2⟩ := t_take hK S1 (hT bl 0) (c := 45) (cn := 45) (fun n hn => (sb_all n hn).1) (by show 0 ≤ 1400; omega)
  simp only at e2 S2
  have hneg : (if 0 < tl ∧ tn 0 = 45 then 0 + 1 else 0) = tNeg tn tl := rfl
  rw [hneg] at S2
  have eneg : (if 0 < tl ∧ tn 0 = 45 then (1 : Int32) else 0) = nI (tNeg tn tl) := by unfold tNeg; split <;> rfl
  rw [eneg] at e2
  have nle : tNeg tn tl ≤ 1 := by unfold tNeg; split <;> omega
  obtain ⟨σ3, c1, v3, e3, S3, h3, g3, f3⟩ := t_nat hK i32 (hK.2.1 32 (by omega)) (hT bl) S2 (by omega)
  unfold fX5_takeFraction
  rw [nI_0] at e1
  simp only [e1, Option.bind_some, rdT hK S1, e2, rdG hK S2, rdT hK S2, e3]
  by_cases hA : 0 < rlen tn tl (tNeg tn tl) ∧ dv tn (tNeg tn tl) (rlen tn tl (tNeg tn tl)) < TOP
  · have hA' : 0 < rlen tn tl (tNeg tn tl) ∧ tN tn tl < TOP := hA
    obtain ⟨ec1, ev1⟩ := g3 hA.2
    rw [if_neg (by rw [if_pos hA]; decide)]
    obtain ⟨σ4, e4, S4⟩ := t_sign hK S3 (p := 16) (n := tNeg tn tl) (by decide) nle
    obtain ⟨σ5, e5, S5⟩ := t_unsigned hK S4 i33 (n := 1) (by omega)
    have eE : tNeg tn tl + c1 = tE tn tl := by rw [ec1]; rfl
    rw [show 2 * 16 = 32 from rfl, ev1] at S4 S5
    rw [eE] at S3 S4 S5 h3
    have eN : dv tn (tNeg tn tl) (rlen tn tl (tNeg tn tl)) = tN tn tl := rfl
    rw [eN] at S4 S5 ev1
    obtain ⟨bl5, ebl⟩ : ∃ b, b = va_up bl 16 (sz (tN tn tl) (tNeg tn tl)) := ⟨_, rfl⟩
    have S5' : St K σb σ5 (bl5, (tl, tE tn tl, tb), x) (va_up v3 33 1) := by rw [ebl]; exact S5
    obtain ⟨σ6, e6, S6⟩ := t_take hK S5' (hT bl5 _) (c := 47) (cn := 47) (fun n hn => (sb_all n hn).2.1) h3
    simp only at e6 S6
    rw [show (1 : Int64) = lN 1 from rfl]
    simp only [rdG hK S3, e4, rdG hK S4, S4.n hK i33, e5, Option.bind_some, rdT hK S5', e6]
    have k32 : va_up v3 33 1 32 = tN tn tl := by rw [va_up_ne _ _ (by decide)]; exact ev1
    have kbl : ∀ p, p < 16 → bl5 p = bl p := fun p hp => by rw [ebl, va_up_ne _ _ (by omega)]
    have kbl16 : bl5 16 = sz (tN tn tl) (tNeg tn tl) := by rw [ebl, va_up_self]
    by_cases hB : tE tn tl < tl ∧ tn (tE tn tl) = 47
    · rw [if_neg (by rw [if_pos hB]; decide)]
      rw [if_pos hB] at S6
      obtain ⟨σ7, c2, v7, e7, S7, h7, g7, f7⟩ := t_nat hK i33 (hK.2.1 33 (by omega)) (hT bl5) S6 (by omega)
      simp only [rdG hK S6, rdT hK S6, e7, Option.bind_some]
      have m32 : v7 32 = tN tn tl := by rw [f7 _ (by decide), k32]
      have mfr : ∀ i, i < 32 → v7 i = v i := fun i hi => by rw [f7 _ (by omega), va_up_ne _ _ (by omega), f3 _ (by omega)]
      by_cases hC : 0 < rlen tn tl (tE tn tl + 1) ∧ dv tn (tE tn tl + 1) (rlen tn tl (tE tn tl + 1)) < TOP
      · obtain ⟨ec2, ev2⟩ := g7 hC.2
        have m33 : v7 33 = tM tn tl := ev2
        rw [if_neg (by rw [if_pos hC]; decide)]
        simp only [rdG hK S7, S7.n hK i33, t_isZero hK S7 i33, Option.bind_some, m33]
        unfold BX5_takeFraction_68 BX5_takeFraction_70 BX5_takeFraction_86
        by_cases hZ : tM tn tl = 0
        · have hsp : spT tn tl = none := by unfold spT; rw [if_pos hA', if_pos hB, if_neg (fun w => w.2.2.1 hZ)]
          rw [if_neg (by rw [if_pos hZ]; decide), hsp]
          exact ⟨σ7, bl5, _, v7, rfl, S7, mfr, kbl, fun f hf => by cases hf⟩
        · rw [if_pos (by rw [if_neg hZ])]
          simp only [rdT hK S7, Option.bind_some]
          by_cases hL : tE tn tl + 1 + c2 = tl
          · have hsp : spT tn tl = some (tN tn tl, tM tn tl, tNeg tn tl) := by unfold spT; rw [if_pos hA', if_pos hB, if_pos ⟨hC.1, hC.2, hZ, by rw [← ec2]; exact hL⟩]
            rw [if_pos (by rw [hL]), hsp]
            exact ⟨σ7, bl5, _, v7, g_if_pos (by simp), S7, mfr, kbl, fun f hf => by cases hf; exact ⟨m32, m33, kbl16⟩⟩
          · have hsp : spT tn tl = none := by unfold spT; rw [if_pos hA', if_pos hB, if_neg (fun w => hL (by rw [ec2]; exact w.2.2.2))]
            rw [if_neg (fun w => hL ((nI_eq (by omega) (by omega)).mp w)), hsp]
            exact ⟨σ7, bl5, _, v7, g_if_pos (by simp), S7, mfr, kbl, fun f hf => by cases hf⟩
      · have hsp : spT tn tl = none := by unfold spT; rw [if_pos hA', if_pos hB, if_neg (fun w => hC ⟨w.1, w.2.1⟩)]
        rw [if_pos (by rw [if_neg hC]), hsp]
        unfold BX5_takeFraction_68
        exact ⟨σ7, bl5, _, v7, rfl, S7, mfr, kbl, fun f hf => by cases hf⟩
    · rw [if_pos (by rw [if_neg hB])]
      rw [if_neg hB] at S6
      have mfr : ∀ i, i < 32 → va_up v3 33 1 i = v i := fun i hi => by rw [va_up_ne _ _ (by omega), f3 _ (by omega)]
      unfold BX5_takeFraction_70 BX5_takeFraction_86
      simp only [rdT hK S6, Option.bind_some]
      by_cases hL : tE tn tl = tl
      · have hsp : spT tn tl = some (tN tn tl, 1, tNeg tn tl) := by unfold spT; rw [if_pos hA', if_neg hB, if_pos hL]
        rw [if_pos (by rw [hL]), hsp]
        exact ⟨σ6, bl5, _, _, g_if_pos (by simp), S6, mfr, kbl, fun f hf => by cases hf; exact ⟨k32, va_up_self _ _ _, kbl16⟩⟩
      · have hsp : spT tn tl = none := by unfold spT; rw [if_pos hA', if_neg hB, if_neg hL]
        rw [if_neg (fun w => hL ((nI_eq (by omega) (by omega)).mp w)), hsp]
        exact ⟨σ6, bl5, _, _, g_if_pos (by simp), S6, mfr, kbl, fun f hf => by cases hf⟩
  · have hsp : spT tn tl = none := by unfold spT; exact if_neg hA
    rw [if_pos (by rw [if_neg hA]), hsp]
    exact ⟨σ3, bl, _, v3, rfl, S3, fun i hi => f3 _ (by omega), fun _ _ => rfl, fun f hf => by cases hf⟩
end TB
