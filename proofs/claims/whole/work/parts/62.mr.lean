/-! the reference: reckon -/
section MR
variable {Q : Nat → Nat} {σ0 : g_S} {z : g_Z} {v : Nat → Nat} {m : g_M}
/-- a call of the reference answers as the desk does -/
def RM (Q : Nat → Nat) (σ0 : g_S) (o : Option (Int32 × g_S)) (r : Int32 × g_M) : Prop := ∃ σ', o = some (r.1, σ') ∧ MS Q σ0 σ' r.2
theorem RM.id {o : Option (Int32 × g_S)} {r : Int32 × g_M} (h : RM Q σ0 o r) : RM Q σ0 (o.bind fun r3 => some (r3.1, r3.2)) r := by
  obtain ⟨σ', e1, e2⟩ := h
  exact ⟨σ', by rw [e1]; rfl, e2⟩
theorem isP_nI {a : Nat} (ha : a < 16) : isP (nI a) ∧ pOf (nI a) = a := ⟨⟨nI_pos (by omega), by rw [show (16 : Int32) = nI 16 from rfl]; exact nI_ge ha (by omega)⟩, nI_clamp (by omega)⟩
theorem r_holds (hQ : kM Q) {σ : g_S} (M : MSt Q σ0 σ z v) (V : MV z v m) {p nb : Nat} (hp : p < 16) (hnb : nb ≤ 1) {r : Int32 × g_Fr} (hr : r = if v 32 < TOP ∧ v 33 < TOP then (0, v 32, v 33, sz (v 32) nb) else (-3, 0, 1, 0)) (hok : r.1 = 0 → fOK r.2) : RM Q σ0 (fX8_holds σ (Q 0) (nI p) (nI nb)) (mKeep m (nI p) r) := by
  obtain ⟨σ', e1, e2⟩ := v_holds hQ M V hp hnb (fun w => by rw [if_pos w] at hr; have := hok (by rw [hr]); rw [hr] at this; exact this)
  unfold mKeep
  rw [(isP_nI hp).2]
  by_cases hc : v 32 < TOP ∧ v 33 < TOP
  · rw [if_pos hc] at e1 e2 hr
    subst hr
    exact ⟨σ', e1, e2⟩
  · rw [if_neg hc] at e1 e2 hr
    subst hr
    exact ⟨σ', e1, e2⟩
theorem r_341 (hQ : kM Q) {σ : g_S} (M : MSt Q σ0 σ z v) (V : MV z v m) {p nb : Nat} (hp : p < 16) (hnb : nb ≤ 1) (l1 : v 32 < 65536 ^ 262) (l2 : v 33 < 65536 ^ 262) (p2 : 0 < v 33) : RM Q σ0 (BX8_reckon_341 σ (Q 0) (nI p) (nI nb)) (mKeep m (nI p) (cRes (v 32) (v 33) nb)) := by
  obtain ⟨σ1, v1, e1, M1, k1, k2, k3, k4⟩ := v_least hQ M l1 l2 p2
  have V1 := V.frame k3 k4
  have h := r_holds hQ M1 V1 hp hnb (r := cRes (v 32) (v 33) nb) (by unfold cRes; rw [k1, k2]) (fOK_res p2 hnb)
  unfold BX8_reckon_341
  simp only [rS hQ M, e1, Option.bind_some, rS hQ M1]
  exact h.id
theorem cRes_one {N b : Nat} (hN : N < TOP) : cRes N 1 b = (0, N, 1, sz N b) := by
  unfold cRes
  rw [Nat.gcd_one_right, Nat.div_one, Nat.div_one, if_pos ⟨hN, TOP_1⟩]
theorem bx_0 {b : Nat} (h : b ≤ 1) : bx b 0 = b := by
  unfold bx; split <;> omega
theorem bx_1 {b : Nat} (h : b ≤ 1) : bx b 1 = 1 - b := by
  unfold bx; split <;> omega
/-- sums: 32 and 33 hold the sum, not in least terms -/
theorem v_sums (hQ : kM Q) {σ : g_S} (M : MSt Q σ0 σ z v) {a b o : Nat} (ha : a < 16) (hb : b < 16) (ho : o ≤ 1) (fa : fOK (v (2 * a), v (2 * a + 1), z.2.1 a)) (fb : fOK (v (2 * b), v (2 * b + 1), z.2.1 b)) :
    ∃ σ' v', fX8_sums σ (Q 0) (nI a) (nI b) (nI o) = some (nI (sF (v (2 * a) * v (2 * b + 1)) (v (2 * b) * v (2 * a + 1)) (z.2.1 a) (bx (z.2.1 b) o)), σ') ∧ MSt Q σ0 σ' z v' ∧ v' 32 = sT (v (2 * a) * v (2 * b + 1)) (v (2 * b) * v (2 * a + 1)) (z.2.1 a) (bx (z.2.1 b) o) ∧ v' 33 = v (2 * a + 1) * v (2 * b + 1) ∧ ∀ i, i < 32 ∨ i = 42 → v' i = v i := by
  obtain ⟨x1, x2, x3, x4, x5, x6⟩ := fa
  obtain ⟨z1, z2, z3, z4, z5, z6⟩ := fb
  simp only at x1 x2 x3 x4 x5 x6 z1 z2 z3 z4 z5 z6
  unfold fX8_sums
  rw [two_nI, two_nI, nI_1, nI_1, show (34 : Int32) = nI 34 from rfl, show (43 : Int32) = nI 43 from rfl, show (33 : Int32) = nI 33 from rfl]
  obtain ⟨σ1, e1, M1⟩ := v_prod hQ M (i := 34) (a := 2 * a) (b := 2 * b + 1) (by decide) (by omega) (by omega) (by omega) (by omega) (by omega) (by omega) x1 z3
  obtain ⟨σ2, e2, M2⟩ := v_prod hQ M1 (i := 43) (a := 2 * b) (b := 2 * a + 1) (by decide) (by omega) (by omega) (by omega) (by omega) (by omega) (by omega) (by rw [va_up_ne _ _ (by omega)]; exact z1) (by rw [va_up_ne _ _ (by omega)]; exact x3)
  rw [va_up_ne _ _ (show 2 * b ≠ 34 by omega), va_up_ne _ _ (show 2 * a + 1 ≠ 34 by omega)] at M2
  obtain ⟨σ3, e3, M3⟩ := v_prod hQ M2 (i := 33) (a := 2 * a + 1) (b := 2 * b + 1) (by decide) (by omega) (by omega) (by omega) (by omega) (by omega) (by omega) (by rw [va_up_ne _ _ (by omega), va_up_ne _ _ (by omega)]; exact x3) (by rw [va_up_ne _ _ (by omega), va_up_ne _ _ (by omega)]; exact z3)
  rw [va_up_ne _ _ (show 2 * a + 1 ≠ 43 by omega), va_up_ne _ _ (show 2 * a + 1 ≠ 34 by omega), va_up_ne _ _ (show 2 * b + 1 ≠ 43 by omega), va_up_ne _ _ (show 2 * b + 1 ≠ 34 by omega)] at M3
  have lP : v (2 * a) * v (2 * b + 1) < 65536 ^ 261 := TOP_M262 x1 z3
  have lX : v (2 * b) * v (2 * a + 1) < 65536 ^ 261 := TOP_M262 z1 x3
  have b1 := v_bel hQ M3 ha
  have b2 := v_bel hQ M3 hb
  simp only [rS hQ M, e1, Option.bind_some, rS hQ M1, e2, rS hQ M2, e3, rS hQ M3, b1, b2]
  obtain ⟨v3, ev3⟩ : ∃ v3, v3 = va_up (va_up (va_up v 34 (v (2 * a) * v (2 * b + 1))) 43 (v (2 * b) * v (2 * a + 1))) 33 (v (2 * a + 1) * v (2 * b + 1)) := ⟨_, rfl⟩
  rw [← ev3] at M3
  have k34 : v3 34 = v (2 * a) * v (2 * b + 1) := by rw [ev3, va_up_ne _ _ (by decide), va_up_ne _ _ (by decide), va_up_self]
  have k43 : v3 43 = v (2 * b) * v (2 * a + 1) := by rw [ev3, va_up_ne _ _ (by decide), va_up_self]
  have k33 : v3 33 = v (2 * a + 1) * v (2 * b + 1) := by rw [ev3, va_up_self]
  have kfr : ∀ i, i < 32 ∨ i = 42 → v3 i = v i := fun i hi => by rw [ev3, va_up_ne _ _ (by omega), va_up_ne _ _ (by omega), va_up_ne _ _ (by omega)]
  generalize v (2 * a) * v (2 * b + 1) = A at *
  generalize v (2 * b) * v (2 * a + 1) = B at *
  generalize v (2 * a + 1) * v (2 * b + 1) = D at *
  have key : ∀ c, c ≤ 1 → ∃ σ' v', BX8_sums_67 σ3 (Q 0) (nI (z.2.1 a)) (nI c) = some (nI (sF A B (z.2.1 a) c), σ') ∧ MSt Q σ0 σ' z v' ∧ v' 32 = sT A B (z.2.1 a) c ∧ v' 33 = D ∧ ∀ i, i < 32 ∨ i = 42 → v' i = v i := by
    intro c hc
    unfold BX8_sums_67 BX8_sums_105 BX8_sums_135 BX8_sums_147 sT sF
    rw [show (34 : Int32) = nI 34 from rfl, show (43 : Int32) = nI 43 from rfl, show (32 : Int32) = nI 32 from rfl]
    by_cases hbc : z.2.1 a = c
    · rw [if_pos (by rw [hbc]), if_pos hbc, if_pos hbc]
      obtain ⟨σ4, e4, M4⟩ := v_add hQ M3 (i := 32) (a := 34) (b := 43) (by decide) (by decide) (by decide) (by decide) (by decide) (by decide) (by decide) (by rw [k34]; exact P262 lP) (by rw [k43]; exact P262 lX)
      rw [k34, k43] at M4
      refine ⟨σ4, _, ?_, M4, va_up_self _ _ _, by rw [va_up_ne _ _ (by decide), k33], fun i hi => by rw [va_up_ne _ _ (by omega), kfr i hi]⟩
      simp only [rS hQ M3, e4, Option.bind_some]
      exact g_if_pos (nI_b x5)
    · rw [if_neg (fun w => hbc ((nI_bx x5 hc).mp w)), if_neg hbc, if_neg hbc]
      have e4 := v_order hQ M3 (i := 34) (j := 43) (by decide) (by decide) (by decide) (by decide)
      rw [k34, k43] at e4
      simp only [rS hQ M3, e4, Option.bind_some]
      by_cases hlt : A < B
      · rw [if_neg (by rw [cmpI_lt hlt]; decide), if_pos hlt, if_pos hlt, if_neg (by decide)]
        obtain ⟨σ5, e5, M5⟩ := v_sub hQ M3 (i := 32) (a := 43) (b := 34) (by decide) (by decide) (by decide) (by decide) (by decide) (by decide) (by decide) (by rw [k34, k43]; omega)
        rw [k34, k43] at M5
        refine ⟨σ5, _, ?_, M5, va_up_self _ _ _, by rw [va_up_ne _ _ (by decide), k33], fun i hi => by rw [va_up_ne _ _ (by omega), kfr i hi]⟩
        simp only [e5, Option.bind_some]
        rw [if_neg (by decide)]
        exact g_if_pos (nI_b hc)
      · rw [if_pos (Int32.not_lt.mp (fun w => hlt ((cmpI_neg _ _).mp w))), if_neg hlt, if_neg hlt, if_pos True.intro]
        obtain ⟨σ5, e5, M5⟩ := v_sub hQ M3 (i := 32) (a := 34) (b := 43) (by decide) (by decide) (by decide) (by decide) (by decide) (by decide) (by decide) (by rw [k34, k43]; omega)
        rw [k34, k43] at M5
        refine ⟨σ5, _, ?_, M5, va_up_self _ _ _, by rw [va_up_ne _ _ (by decide), k33], fun i hi => by rw [va_up_ne _ _ (by omega), kfr i hi]⟩
        simp only [e5, Option.bind_some]
        rw [if_pos True.intro]
        exact g_if_pos (nI_b x5)
  unfold bx
  by_cases hbo : z.2.1 b = o
  · rw [if_pos (by rw [hbo]), if_pos hbo, ← nI_0]
    exact key 0 (by omega)
  · rw [if_neg (fun w => hbo ((nI_bx z5 ho).mp w)), if_neg hbo]
    exact key 1 (by omega)
theorem v_down (hQ : kM Q) {σ : g_S} (M : MSt Q σ0 σ z v) (V42 : v 42 = 1) {a b o : Nat} (ha : a < 16) (hb : b < 16) (ho : o ≤ 1) (fa : fOK (v (2 * a), v (2 * a + 1), z.2.1 a)) (fb : fOK (v (2 * b), v (2 * b + 1), z.2.1 b)) (hn : v (2 * b) ≠ 0) :
    ∃ σ' v', fX8_downwards σ (Q 0) (nI a) (nI b) (nI o) = some (nI (if o = 0 then bx (z.2.1 a) (z.2.1 b) else z.2.1 b), σ') ∧ MSt Q σ0 σ' z v' ∧ v' 32 = (if o = 0 then cQuo (v (2 * a)) (v (2 * b)) (z.2.1 a) (z.2.1 b) else cRem (v (2 * a)) (v (2 * b)) (z.2.1 a) (z.2.1 b)) ∧ v' 33 = 1 ∧ ∀ i, i < 32 ∨ i = 42 → v' i = v i := by
  obtain ⟨x1, x2, x3, x4, x5, x6⟩ := fa
  obtain ⟨z1, z2, z3, z4, z5, z6⟩ := fb
  simp only at x1 x2 x3 x4 x5 x6 z1 z2 z3 z4 z5 z6
  unfold fX8_downwards
  rw [two_nI, two_nI]
  obtain ⟨σ1, v1, e1, M1, g1, g2, f1⟩ := v_divides hQ M (x := 2 * a) (y := 2 * b) (by omega) (by omega) (by omega) (by omega) (TOP_262 x1) hn
  have b1 := v_bel hQ M1 ha
  have b2 := v_bel hQ M1 hb
  simp only [rS hQ M, e1, Option.bind_some, rS hQ M1, b1, b2]
  have hml := Nat.mod_lt (v (2 * a)) (Nat.pos_of_ne_zero hn)
  have hdl := Nat.div_le_self (v (2 * a)) (v (2 * b))
  have kb : v1 (2 * b) = v (2 * b) := f1 _ (by omega) (by omega)
  generalize v (2 * a) = n at *
  generalize v (2 * b) = mm at *
  -- the end, for u = 1 where the quotient is uneven
  have last : ∀ (u d : Nat), d ≤ 1 → d = bx (z.2.1 a) (z.2.1 b) → u ≤ 1 → (u = 0 ↔ z.2.1 a = z.2.1 b ∨ n % mm = 0) → ∃ σ' v', BX8_downwards_51 σ1 (Q 0) (nI b) (nI o) (nI d) (nI u) = some (nI (if o = 0 then bx (z.2.1 a) (z.2.1 b) else z.2.1 b), σ') ∧ MSt Q σ0 σ' z v' ∧ v' 32 = (if o = 0 then cQuo n mm (z.2.1 a) (z.2.1 b) else cRem n mm (z.2.1 a) (z.2.1 b)) ∧ v' 33 = 1 ∧ ∀ i, i < 32 ∨ i = 42 → v' i = v i := by
    intro u d hd hdd hu hu0
    obtain ⟨σ2, e2, M2⟩ := v_small hQ M1 (x := 33) (n := 1) (by decide) (by decide)
    unfold BX8_downwards_51 BX8_downwards_121 BX8_downwards_91
    rw [show (33 : Int32) = nI 33 from rfl, show (1 : Int32) = nI 1 from rfl]
    simp only [rS hQ M1, e2, Option.bind_some]
    rw [show nI 1 = (1 : Int32) from rfl]
    have k35 : va_up v1 33 1 35 = n / mm := by rw [va_up_ne _ _ (by decide), g1]
    have k36 : va_up v1 33 1 36 = n % mm := by rw [va_up_ne _ _ (by decide), g2]
    have k42 : va_up v1 33 1 42 = 1 := by rw [va_up_ne _ _ (by decide), f1 _ (by decide) (by decide), V42]
    have kfr : ∀ i, i < 32 ∨ i = 42 → va_up v1 33 1 i = v i := fun i hi => by rw [va_up_ne _ _ (by omega), f1 i (by omega) (by omega)]
    have k33 : va_up v1 33 1 33 = 1 := va_up_self _ _ _
    generalize va_up v1 33 1 = v2 at *
    by_cases ho0 : o = 0
    · rw [if_pos (by rw [ho0]; rfl), if_pos ho0, if_pos ho0, show (35 : Int32) = nI 35 from rfl, show (32 : Int32) = nI 32 from rfl, show (42 : Int32) = nI 42 from rfl]
      obtain ⟨σ3, e3, M3⟩ := v_copy hQ M2 (x := 35) (w := 32) (by decide) (by decide) (by decide) (by decide)
      rw [k35] at M3
      simp only [rS hQ M2, e3, Option.bind_some]
      unfold cQuo
      by_cases hc : z.2.1 a = z.2.1 b ∨ n % mm = 0
      · have h0 := hu0.mpr hc
        rw [if_pos (by rw [h0]; rfl), if_pos hc, ← hdd]
        exact ⟨σ3, _, g_if_pos (nI_b hd), M3, va_up_self _ _ _, by rw [va_up_ne _ _ (by decide), k33], fun i hi => by rw [va_up_ne _ _ (by omega), kfr i hi]⟩
      · have h0 : u ≠ 0 := fun w => hc (hu0.mp w)
        rw [if_neg (fun w => h0 ((ja_e0 (by omega)).mp w)), if_neg hc, ← hdd]
        obtain ⟨σ4, e4, M4⟩ := v_add hQ M3 (i := 32) (a := 35) (b := 42) (by decide) (by decide) (by decide) (by decide) (by decide) (by decide) (by decide) (by rw [va_up_ne _ _ (by decide), k35]; exact TOP_262 (by omega)) (by rw [va_up_ne _ _ (by decide), k42]; exact TOP_262 TOP_1)
        rw [va_up_ne _ _ (show (35 : Nat) ≠ 32 by decide), va_up_ne _ _ (show (42 : Nat) ≠ 32 by decide), k35, k42] at M4
        refine ⟨σ4, _, ?_, M4, va_up_self _ _ _, by rw [va_up_ne _ _ (by decide), va_up_ne _ _ (by decide), k33], fun i hi => by rw [va_up_ne _ _ (by omega), va_up_ne _ _ (by omega), kfr i hi]⟩
        simp only [rS hQ M3, e4, Option.bind_some]
        exact g_if_pos (nI_b hd)
    · rw [if_neg (fun w => ho0 ((ja_e0 (by omega)).mp w)), if_neg ho0, if_neg ho0, show (36 : Int32) = nI 36 from rfl, show (32 : Int32) = nI 32 from rfl]
      unfold cRem
      by_cases hc : z.2.1 a = z.2.1 b ∨ n % mm = 0
      · have h0 := hu0.mpr hc
        rw [if_pos (by rw [h0]; rfl), if_pos hc]
        obtain ⟨σ3, e3, M3⟩ := v_copy hQ M2 (x := 36) (w := 32) (by decide) (by decide) (by decide) (by decide)
        rw [k36] at M3
        have b3 := v_bel hQ M3 hb
        refine ⟨σ3, _, ?_, M3, va_up_self _ _ _, by rw [va_up_ne _ _ (by decide), k33], fun i hi => by rw [va_up_ne _ _ (by omega), kfr i hi]⟩
        simp only [rS hQ M2, e3, Option.bind_some, rS hQ M3, b3]
        exact g_if_pos (nI_b z5)
      · have h0 : u ≠ 0 := fun w => hc (hu0.mp w)
        rw [if_neg (fun w => h0 ((ja_e0 (by omega)).mp w)), if_neg hc, two_nI]
        have k2b : v2 (2 * b) = mm := by rw [kfr _ (by omega), ← kb, f1 _ (by omega) (by omega)]
        obtain ⟨σ3, e3, M3⟩ := v_sub hQ M2 (i := 32) (a := 2 * b) (b := 36) (by decide) (by omega) (by decide) (by omega) (by decide) (by omega) (by decide) (by rw [k36, k2b]; omega)
        rw [k36, k2b] at M3
        have b3 := v_bel hQ M3 hb
        refine ⟨σ3, _, ?_, M3, va_up_self _ _ _, by rw [va_up_ne _ _ (by decide), k33], fun i hi => by rw [va_up_ne _ _ (by omega), kfr i hi]⟩
        simp only [rS hQ M2, e3, Option.bind_some, rS hQ M3, b3]
        exact g_if_pos (nI_b z5)
  unfold BX8_downwards_30 BX8_downwards_50
  have z0 : nI 0 = 0 := nI_0
  by_cases hbe : z.2.1 a = z.2.1 b
  · rw [if_pos (by rw [hbe]), if_pos rfl, ← z0]
    exact last 0 0 (by omega) (by unfold bx; rw [if_pos hbe]) (by omega) ⟨fun _ => Or.inl hbe, fun _ => rfl⟩
  · rw [if_neg (fun w => hbe ((nI_bx x5 z5).mp w)), if_neg (by decide)]
    have e2 := v_isZero hQ M1 (x := 36) (by decide) (by decide)
    rw [g2] at e2
    rw [show (36 : Int32) = nI 36 from rfl, e2]
    simp only [Option.bind_some, rS hQ M1]
    by_cases hr : n % mm = 0
    · rw [if_neg (by rw [if_pos hr]; decide), ← z0]
      exact last 0 1 (by omega) (by unfold bx; rw [if_neg hbe]) (by omega) ⟨fun _ => Or.inr hr, fun _ => rfl⟩
    · rw [if_pos (by rw [if_neg hr])]
      exact last 1 1 (by omega) (by unfold bx; rw [if_neg hbe]) (by omega) ⟨fun w => by omega, fun w => by rcases w with w | w; exact absurd w hbe; exact absurd w hr⟩
theorem r_raises (hQ : kM Q) {σ : g_S} (M : MSt Q σ0 σ z v) (V : MV z v m) {p a b : Nat} (hp : p < 16) (ha : a < 16) (hb : b < 16) : RM Q σ0 (fX8_raises σ (Q 0) (nI p) (nI a) (nI b)) (mKeep m (nI p) (if (m.1 b).2.1 = 1 ∧ (m.1 b).2.2 = 0 ∧ (m.1 b).1 ≤ 10000 then cPow (m.1 a) (m.1 b).1 else (-1, 0, 1, 0))) := by
  obtain ⟨fa, ga⟩ := V.fr ha
  obtain ⟨fb, gb⟩ := V.fr hb
  obtain ⟨x1, x2, x3, x4, x5, x6⟩ := id fa
  obtain ⟨z1, z2, z3, z4, z5, z6⟩ := id fb
  simp only at x1 x2 x3 x4 x5 x6 z1 z2 z3 z4 z5 z6
  rw [← ga, ← gb]
  simp only
  have no : RM Q σ0 (some (-1, σ)) (mKeep m (nI p) (-1, 0, 1, 0)) := ⟨σ, rfl, z, v, M, V⟩
  have e1 := v_isWhole hQ M hb
  have e2 := v_bel hQ M hb
  have e4 := v_at0 hQ M (x := 2 * b) (by omega) (by omega)
  obtain ⟨n, s1, s2, s3⟩ := v_small16 hQ M (x := 2 * b) (by omega) (by omega)
  unfold fX8_raises BX8_raises_43 BX8_raises_85 BX8_raises_111 BX8_raises_112
  rw [two_nI, two_nI, nI_1]
  simp only [rS hQ M, e1, Option.bind_some]
  by_cases h1 : v (2 * b + 1) = 1
  · rw [if_neg (by rw [if_pos h1]; decide)]
    simp only [rS hQ M, e2, Option.bind_some]
    by_cases h2 : z.2.1 b = 0
    · rw [if_pos (by rw [h2]; rfl)]
      simp only [s1, Option.bind_some]
      rw [show (1 : Int32) = nI 1 from rfl]
      by_cases h3 : 1 < n
      · rw [if_pos (nI_lt h3 (by omega)), if_neg (fun w => by omega)]
        exact no
      · have hlt : v (2 * b) < 65536 := s3.mp (by omega)
        rw [if_neg (nI_nlt (by omega) (by omega)), e4]
        simp only [Option.bind_some, rS hQ M]
        rw [Nat.mod_eq_of_lt hlt, show (10000 : Int32) = nI 10000 from rfl]
        by_cases h4 : v (2 * b) ≤ 10000
        · rw [if_pos ((nI_leI (by omega) (by omega)).mpr h4), if_pos ⟨h1, h2, h4⟩, e4]
          simp only [Option.bind_some, rS hQ M]
          rw [Nat.mod_eq_of_lt hlt]
          generalize v (2 * b) = e at *
          obtain ⟨σ1, v1, f1, M1, f2, f3⟩ := v_power hQ M (x := 2 * a) (w := 32) (e := e) (by omega) (Or.inl rfl) x1 h4
          rw [show (32 : Int32) = nI 32 from rfl, f1]
          simp only [Option.bind_some]
          by_cases hN : v (2 * a) ^ e < TOP
          · rw [if_neg (by rw [if_pos hN]; decide)]
            have kd : v1 (2 * a + 1) = v (2 * a + 1) := f3 _ (by omega) (by omega)
            obtain ⟨σ2, v2, g1, M2, g2, g3⟩ := v_power hQ M1 (x := 2 * a + 1) (w := 33) (e := e) (by omega) (Or.inr rfl) (by rw [kd]; exact x3) h4
            rw [kd] at g1 g2
            rw [show (33 : Int32) = nI 33 from rfl]
            simp only [rS hQ M1, g1, Option.bind_some]
            by_cases hD : v (2 * a + 1) ^ e < TOP
            · rw [if_neg (by rw [if_pos hD]; decide)]
              have V2 : MV z v2 m := V.frame (fun i hi => by rw [g3 _ (by omega) (by omega), f3 _ (by omega) (by omega)]) (by rw [g3 _ (by decide) (by decide), f3 _ (by decide) (by decide)])
              have k32 : v2 32 = v (2 * a) ^ e := by rw [g3 _ (by decide) (by decide), f2 hN]
              have k33 : v2 33 = v (2 * a + 1) ^ e := g2 hD
              have e5 := v_bel hQ M2 ha
              simp only [rS hQ M2, e5, Option.bind_some]
              have spec : cPow (v (2 * a), v (2 * a + 1), z.2.1 a) e = (0, v (2 * a) ^ e, v (2 * a + 1) ^ e, if e % 2 = 1 then sz (v (2 * a)) (z.2.1 a) else 0) := by
                unfold cPow; rw [if_pos ⟨hN, hD⟩]
              have hok : (cPow (v (2 * a), v (2 * a + 1), z.2.1 a) e).1 = 0 → fOK (cPow (v (2 * a), v (2 * a + 1), z.2.1 a) e).2 := fun w => by
                have := spC_ok (x := (v (2 * a), v (2 * a + 1), z.2.1 a)) (z := (e, v (2 * b + 1), z.2.1 b)) (op := 7) fa fb
                unfold spC at this
                rw [if_neg (by decide), if_neg (by decide), if_neg (by decide), if_neg (by decide), if_neg (by decide), if_neg (by decide), if_neg (by decide), if_pos rfl, if_pos ⟨h1, h2, h4⟩] at this
                exact this w
              have fin : ∀ c, c ≤ 1 → sz (v (2 * a) ^ e) c = (if e % 2 = 1 then sz (v (2 * a)) (z.2.1 a) else 0) → RM Q σ0 ((fX8_holds σ2 (Q 0) (nI p) (nI c)).bind fun r25 => some (r25.1, r25.2)) (mKeep m (nI p) (cPow (v (2 * a), v (2 * a + 1), z.2.1 a) e)) := by
                intro c hc hcs
                exact (r_holds hQ M2 V2 hp hc (by rw [spec, k32, k33, if_pos (show v (2 * a) ^ e < TOP ∧ v (2 * a + 1) ^ e < TOP from ⟨hN, hD⟩), hcs]) hok).id
              have hpz : ∀ c, e % 2 = 1 → sz (v (2 * a) ^ e) c = sz (v (2 * a)) c := fun c ho => by
                unfold sz
                rcases Nat.eq_zero_or_pos (v (2 * a)) with q | q
                · rw [if_pos (show v (2 * a) ^ e = 0 by rw [q, Nat.zero_pow (by omega)]), if_pos q]
                · rw [if_neg (show ¬ v (2 * a) ^ e = 0 from Nat.ne_of_gt (Nat.pow_pos q)), if_neg (show ¬ v (2 * a) = 0 by omega)]
              by_cases hba : z.2.1 a = 0
              · rw [if_pos (by rw [hba]; rfl), ← nI_0]
                exact fin 0 (by omega) (by rw [hba]; unfold sz; split <;> split <;> (try split) <;> rfl)
              · rw [if_neg (fun w => hba ((ja_e0 (by omega)).mp w))]
                have er : g_irem (nI e) 2 = nI (e % 2) := pk_rem (d := 2) (by omega) (by decide) (by decide)
                rw [er]
                by_cases ho : e % 2 = 1
                · rw [if_pos (by rw [ho])]
                  exact fin 1 (by omega) (by rw [if_pos ho, hpz 1 ho, show z.2.1 a = 1 by omega])
                · rw [if_neg (fun w => ho ((nI_eq (by omega) (by omega)).mp w)), ← nI_0]
                  exact fin 0 (by omega) (by rw [if_neg ho]; unfold sz; split <;> rfl)
            · rw [if_pos (by rw [if_neg hD])]
              have V2 : MV z v2 m := V.frame (fun i hi => by rw [g3 _ (by omega) (by omega), f3 _ (by omega) (by omega)]) (by rw [g3 _ (by decide) (by decide), f3 _ (by decide) (by decide)])
              have spec : cPow (v (2 * a), v (2 * a + 1), z.2.1 a) e = (-3, 0, 1, 0) := by unfold cPow; rw [if_neg (fun w => hD w.2)]
              rw [spec]
              exact ⟨σ2, rfl, z, v2, M2, V2⟩
          · rw [if_pos (by rw [if_neg hN])]
            have V1 : MV z v1 m := V.frame (fun i hi => f3 _ (by omega) (by omega)) (f3 _ (by decide) (by decide))
            have spec : cPow (v (2 * a), v (2 * a + 1), z.2.1 a) e = (-3, 0, 1, 0) := by unfold cPow; rw [if_neg (fun w => hN w.1)]
            rw [spec]
            exact ⟨σ1, rfl, z, v1, M1, V1⟩
        · rw [if_neg (fun w => h4 ((nI_leI (by omega) (by omega)).mp w)), if_neg (fun w => h4 w.2.2)]
          exact no
    · rw [if_neg (fun w => h2 ((ja_e0 (by omega)).mp w)), if_neg (fun w => h2 w.2.1)]
      exact no
  · rw [if_pos (by rw [if_neg h1]), if_neg (fun w => h1 w.1)]
    exact no
end MR
