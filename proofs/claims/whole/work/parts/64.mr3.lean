/-! the reference: its calls -/
section MU
variable {Q : Nat → Nat} {σ0 : g_S} {z : g_Z} {v : Nat → Nat} {m : g_M}
theorem two_P {x : Int32} (h : isP x) : (2 : Int32) * x = nI (2 * pOf x) := (congrArg (fun y => (2 : Int32) * y) (isP_of h).2).trans (two_nI _)
theorem r_reckon (hQ : kM Q) {σ : g_S} (C : MS Q σ0 σ m) (x a b op : Int32) : RM Q σ0 (fX8_reckon σ (Q 0) x a b op) (mReckon m x a b op) := by
  obtain ⟨z, v, M, V⟩ := C
  obtain ⟨σ1, e1, M1⟩ := v_p0 hQ M 0
  have V1 := V.thr 0
  rw [nI_0] at e1
  unfold fX8_reckon
  simp only [e1, Option.bind_some]
  have no : RM Q σ0 (BX8_reckon_79 σ1) (-1, m) := ⟨σ1, rfl, _, v, M1, V1⟩
  unfold BX8_reckon_22
  -- whether whole numbers are asked for
  have main : ∀ (w : Int32), (w = 0 ∨ w = 1) → (w = 0 → op < 4 ∨ 6 < op) → (w = 1 → ¬ op < 4 ∧ ¬ 6 < op) → RM Q σ0 (BX8_reckon_23 σ1 (Q 0) x a b op w) (mReckon m x a b op) := by
    intro w hw hw0 hw1
    unfold BX8_reckon_23 mReckon
    simp only [r_isP, Option.bind_some]
    by_cases hx : isP x
    · rw [if_neg (by rw [if_pos hx]; decide)]
      by_cases ha : isP a
      · rw [if_neg (by rw [if_pos ha]; decide)]
        by_cases hb : isP b
        · rw [if_neg (by rw [if_pos hb]; decide), if_pos (show isP x ∧ isP a ∧ isP b from ⟨hx, ha, hb⟩)]
          obtain ⟨px, ex⟩ := isP_of hx
          obtain ⟨pa, ea⟩ := isP_of ha
          obtain ⟨pb, eb⟩ := isP_of hb
          have keepNo : ∀ c : Int32, c ≠ 0 → RM Q σ0 (some (c, σ1)) (mKeep m x (c, 0, 1, 0)) := fun c hc => by
            unfold mKeep
            rw [if_neg hc]
            exact ⟨σ1, rfl, _, v, M1, V1⟩
          by_cases h0 : op < 0
          · rw [if_pos h0, spC_out (Or.inl h0)]
            exact keepNo (-1) (by decide)
          · rw [if_neg h0]
            by_cases h9 : 9 < op
            · rw [if_pos h9, spC_out (Or.inr h9)]
              exact keepNo (-1) (by decide)
            · rw [if_neg h9]
              have hop := op_ten h0 h9
              obtain ⟨fa, ga⟩ := V1.fr pa
              obtain ⟨fb, gb⟩ := V1.fr pb
              have i1 := v_isWhole hQ M1 pa
              have i2 := v_isWhole hQ M1 pb
              rw [← ea] at i1
              rw [← eb] at i2
              have m106 := r_106 hQ M1 V1 (op := op) px pa pb hop
              rw [← ex, ← ea, ← eb] at m106
              have m81 : (op = 4 ∨ op = 5 ∨ op = 6 → (m.1 (pOf a)).2.1 = 1 ∧ (m.1 (pOf b)).2.1 = 1) → RM Q σ0 (BX8_reckon_81 σ1 (Q 0) x a b op) (mKeep m x (spC (m.1 (pOf a)) (m.1 (pOf b)) op)) := by
                intro hwh
                unfold BX8_reckon_81
                have go : (op = 3 ∨ op = 4 ∨ op = 5 → (m.1 (pOf b)).1 ≠ 0) → RM Q σ0 (BX8_reckon_106 σ1 (Q 0) x a b op) (mKeep m x (spC (m.1 (pOf a)) (m.1 (pOf b)) op)) := m106 hwh
                by_cases h3 : op < 3
                · rw [if_pos h3]
                  exact go (fun q => by rcases q with rfl | rfl | rfl <;> exact absurd h3 (by decide))
                · rw [if_neg h3]
                  by_cases h5 : 5 < op
                  · rw [if_pos h5]
                    exact go (fun q => by rcases q with rfl | rfl | rfl <;> exact absurd h5 (by decide))
                  · rw [if_neg h5]
                    have iz := v_isZero hQ M1 (x := 2 * pOf b) (by omega) (by omega)
                    have e2b : (2 : Int32) * b = nI (2 * pOf b) := two_P hb
                    rw [e2b]
                    simp only [rS hQ M1, iz, Option.bind_some]
                    by_cases hn : v (2 * pOf b) = 0
                    · rw [if_neg (by rw [if_pos hn]; decide)]
                      have hs : spC (m.1 (pOf a)) (m.1 (pOf b)) op = (-2, 0, 1, 0) := by
                        have hn' : (m.1 (pOf b)).1 = 0 := by rw [← gb]; exact hn
                        have h345 : op = 3 ∨ op = 4 ∨ op = 5 := by
                          rcases hop with rfl | rfl | rfl | rfl | rfl | rfl | rfl | rfl | rfl | rfl
                          · exact absurd (by decide) h3
                          · exact absurd (by decide) h3
                          · exact absurd (by decide) h3
                          · exact Or.inl rfl
                          · exact Or.inr (Or.inl rfl)
                          · exact Or.inr (Or.inr rfl)
                          · exact absurd (by decide) h5
                          · exact absurd (by decide) h5
                          · exact absurd (by decide) h5
                          · exact absurd (by decide) h5
                        unfold spC
                        rcases h345 with rfl | rfl | rfl
                        · rw [if_neg (by decide), if_neg (by decide), if_neg (by decide), if_pos rfl, if_pos hn']
                        · rw [if_neg (by decide), if_neg (by decide), if_neg (by decide), if_neg (by decide), if_pos rfl, if_pos (hwh (Or.inl rfl)), if_pos hn']
                        · rw [if_neg (by decide), if_neg (by decide), if_neg (by decide), if_neg (by decide), if_neg (by decide), if_pos rfl, if_pos (hwh (Or.inr (Or.inl rfl))), if_pos hn']
                      rw [hs]
                      exact keepNo (-2) (by decide)
                    · rw [if_pos (by rw [if_neg hn])]
                      exact go (fun _ => by rw [← gb]; exact hn)
              rcases hw with rfl | rfl
              · rw [if_pos rfl]
                refine m81 (fun q => ?_)
                rcases hw0 rfl with r | r
                · rcases q with rfl | rfl | rfl <;> exact absurd r (by decide)
                · rcases q with rfl | rfl | rfl <;> exact absurd r (by decide)
              · rw [if_neg (by decide)]
                simp only [rS hQ M1, i1, i2, Option.bind_some]
                have h456 : op = 4 ∨ op = 5 ∨ op = 6 := by
                  obtain ⟨q1, q2⟩ := hw1 rfl
                  rcases hop with rfl | rfl | rfl | rfl | rfl | rfl | rfl | rfl | rfl | rfl
                  · exact absurd (by decide) q1
                  · exact absurd (by decide) q1
                  · exact absurd (by decide) q1
                  · exact absurd (by decide) q1
                  · exact Or.inl rfl
                  · exact Or.inr (Or.inl rfl)
                  · exact Or.inr (Or.inr rfl)
                  · exact absurd (by decide) q2
                  · exact absurd (by decide) q2
                  · exact absurd (by decide) q2
                have nowhole : ¬ ((m.1 (pOf a)).2.1 = 1 ∧ (m.1 (pOf b)).2.1 = 1) → RM Q σ0 (BX8_reckon_79 σ1) (mKeep m x (spC (m.1 (pOf a)) (m.1 (pOf b)) op)) := by
                  intro hno
                  have hs : spC (m.1 (pOf a)) (m.1 (pOf b)) op = (-1, 0, 1, 0) := by
                    unfold spC
                    rcases h456 with rfl | rfl | rfl
                    · rw [if_neg (by decide), if_neg (by decide), if_neg (by decide), if_neg (by decide), if_pos rfl, if_neg hno]
                    · rw [if_neg (by decide), if_neg (by decide), if_neg (by decide), if_neg (by decide), if_neg (by decide), if_pos rfl, if_neg hno]
                    · rw [if_neg (by decide), if_neg (by decide), if_neg (by decide), if_neg (by decide), if_neg (by decide), if_neg (by decide), if_pos rfl, if_neg hno]
                  rw [hs]
                  exact keepNo (-1) (by decide)
                by_cases w1 : v (2 * pOf a + 1) = 1
                · rw [if_neg (by rw [if_pos w1]; decide)]
                  by_cases w2 : v (2 * pOf b + 1) = 1
                  · rw [if_neg (by rw [if_pos w2]; decide)]
                    exact m81 (fun _ => ⟨by rw [← ga]; exact w1, by rw [← gb]; exact w2⟩)
                  · rw [if_pos (by rw [if_neg w2])]
                    exact nowhole (fun q => w2 (by have := q.2; rw [← gb] at this; exact this))
                · rw [if_pos (by rw [if_neg w1])]
                  exact nowhole (fun q => w1 (by have := q.1; rw [← ga] at this; exact this))
        · rw [if_pos (by rw [if_neg hb]), if_neg (fun w => hb w.2.2)]
          exact no
      · rw [if_pos (by rw [if_neg ha]), if_neg (fun w => ha w.2.1)]
        exact no
    · rw [if_pos (by rw [if_neg hx]), if_neg (fun w => hx w.1)]
      exact no
  by_cases h4 : op < 4
  · rw [if_pos h4]
    exact main 0 (Or.inl rfl) (fun _ => Or.inl h4) (fun q => absurd q (by decide))
  · rw [if_neg h4]
    by_cases h6 : 6 < op
    · rw [if_pos h6]
      exact main 0 (Or.inl rfl) (fun _ => Or.inr h6) (fun q => absurd q (by decide))
    · rw [if_neg h6]
      exact main 1 (Or.inr rfl) (fun q => absurd q (by decide)) (fun _ => ⟨h4, h6⟩)
theorem r_compare (hQ : kM Q) {σ : g_S} (C : MS Q σ0 σ m) (a b : Int32) : ∃ σ', fX8_compare σ (Q 0) a b = some (mCmp m a b, σ') ∧ MS Q σ0 σ' m := by
  obtain ⟨z, v, M, V⟩ := C
  unfold mCmp
  by_cases hab : isP a ∧ isP b
  · rw [if_pos hab]
    obtain ⟨pa, ea⟩ := isP_of hab.1
    obtain ⟨pb, eb⟩ := isP_of hab.2
    obtain ⟨σ1, v1, e1, M1, f1⟩ := v_orderF hQ M V pa pb
    rw [← ea, ← eb] at e1
    exact ⟨σ1, e1, _, v1, M1, (V.thr 0).frame (fun i hi => f1 i (by omega) (by omega)) (f1 _ (by decide) (by decide))⟩
  · rw [if_neg hab]
    obtain ⟨σ1, e1, M1⟩ := v_p0 hQ M 0
    rw [nI_0] at e1
    unfold fX8_compare BX8_compare_19
    simp only [e1, Option.bind_some, r_isP]
    by_cases ha : isP a
    · rw [if_neg (by rw [if_pos ha]; decide), if_pos (by rw [if_neg (fun w => hab ⟨ha, w⟩)])]
      exact ⟨σ1, rfl, _, v, M1, V.thr 0⟩
    · rw [if_pos (by rw [if_neg ha])]
      exact ⟨σ1, rfl, _, v, M1, V.thr 0⟩
theorem r_bits (hQ : kM Q) {σ : g_S} (C : MS Q σ0 σ m) (x : Int32) : ∃ σ', fX8_bits σ (Q 0) x = some (mBits m x, σ') ∧ MS Q σ0 σ' m := by
  obtain ⟨z, v, M, V⟩ := C
  obtain ⟨σ1, e1, M1⟩ := v_p0 hQ M 0
  rw [nI_0] at e1
  unfold fX8_bits BX8_bits_23 mBits
  simp only [e1, Option.bind_some, r_isP]
  by_cases hx : isP x
  · rw [if_neg (by rw [if_pos hx]; decide), if_pos hx]
    obtain ⟨px, ex⟩ := isP_of hx
    obtain ⟨fa, ga⟩ := (V.thr 0).fr px
    obtain ⟨k, k1, k2, k3⟩ := v_bits hQ M1 (x := 2 * pOf x) (by omega) (by omega)
    have e2x : (2 : Int32) * x = nI (2 * pOf x) := two_P hx
    rw [e2x]
    simp only [rS hQ M1, k3, Option.bind_some]
    have ek : nbit (v (2 * pOf x)) = k := isbl_uniq (nbit_is _) k1
    rw [← ga]
    show ∃ σ', some (nI k, σ1) = some (nI (nbit (v (2 * pOf x))), σ') ∧ _
    rw [ek]
    exact ⟨σ1, rfl, _, v, M1, V.thr 0⟩
  · rw [if_pos (by rw [if_neg hx]), if_neg hx]
    exact ⟨σ1, rfl, _, v, M1, V.thr 0⟩
theorem r_int (hQ : kM Q) {σ : g_S} (C : MS Q σ0 σ m) (x : Int32) : ∃ σ', fX8_isInteger σ (Q 0) x = some (mInt m x, σ') ∧ MS Q σ0 σ' m := by
  obtain ⟨z, v, M, V⟩ := C
  obtain ⟨σ1, e1, M1⟩ := v_p0 hQ M 0
  rw [nI_0] at e1
  unfold fX8_isInteger BX8_isInteger_24 BX8_isInteger_25 mInt
  simp only [e1, Option.bind_some, r_isP]
  by_cases hx : isP x
  · rw [if_neg (by rw [if_pos hx]; decide)]
    obtain ⟨px, ex⟩ := isP_of hx
    obtain ⟨fa, ga⟩ := (V.thr 0).fr px
    have i1 := v_isWhole hQ M1 px
    rw [← ex] at i1
    simp only [rS hQ M1, i1, Option.bind_some]
    rw [← ga]
    by_cases h1 : v (2 * pOf x + 1) = 1
    · rw [if_neg (by rw [if_pos h1]; decide), if_pos (show isP x ∧ v (2 * pOf x + 1) = 1 from ⟨hx, h1⟩)]
      exact ⟨σ1, g_if_pos (by simp), _, v, M1, V.thr 0⟩
    · rw [if_pos (by rw [if_neg h1]), if_neg (fun w => h1 w.2)]
      exact ⟨σ1, g_if_pos (by simp), _, v, M1, V.thr 0⟩
  · rw [if_pos (by rw [if_neg hx]), if_neg (fun w => hx w.1)]
    exact ⟨σ1, g_if_pos (by simp), _, v, M1, V.thr 0⟩
theorem v_p5 (hQ : kM Q) {σ : g_S} (M : MSt Q σ0 σ z v) (n : Nat) : ∃ σ', g_p σ 8 (Q 0) 5 (.int (nI n)) = some σ' ∧ MSt Q σ0 σ' (z.1, z.2.1, z.2.2.1, n, z.2.2.2.2) v := by
  obtain ⟨s, lf, rfl, h⟩ := M
  exact ⟨_, m_p5 hQ n, s, lf, rfl, h⟩
theorem v_p7 (hQ : kM Q) {σ : g_S} (M : MSt Q σ0 σ z v) (n : Nat) : ∃ σ', g_p σ 8 (Q 0) 7 (.int (nI n)) = some σ' ∧ MSt Q σ0 σ' (z.1, z.2.1, z.2.2.1, z.2.2.2.1, z.2.2.2.2.1, n) v := by
  obtain ⟨s, lf, rfl, h⟩ := M
  exact ⟨_, m_p7 hQ n, s, lf, rfl, h⟩
theorem r_end (hQ : kM Q) {σ : g_S} (C : MS Q σ0 σ m) (n : Int32) : RM Q σ0 (fX8_end σ (Q 0) n) (mEnd m n) := by
  obtain ⟨z, v, M, V⟩ := C
  obtain ⟨σ1, e1, M1⟩ := v_p0 hQ M 0
  rw [nI_0] at e1
  obtain ⟨a1, ⟨a2, a3, a4⟩, a5, a6⟩ := id V
  unfold fX8_end BX8_end_17 mEnd
  simp only [e1, Option.bind_some]
  by_cases h1 : n < 0
  · rw [if_pos h1, if_neg (fun w => w.1 h1)]
    exact ⟨σ1, rfl, _, v, M1, V.thr 0⟩
  · rw [if_neg h1]
    simp only [rS hQ M1, Option.bind_some]
    rw [a2]
    by_cases h2 : n ≤ nI m.2.1.1
    · rw [if_pos h2, if_pos ⟨h1, h2⟩]
      obtain ⟨k, k1, rfl⟩ := nI_of h1
      have k2 : k ≤ m.2.1.1 := (nI_leI k1 (by omega)).mp h2
      rw [nI_clamp k1]
      obtain ⟨σ2, e2, M2⟩ := v_p5 hQ M1 k
      rw [e2]
      refine ⟨σ2, rfl, _, v, M2, a1, ⟨rfl, by show k ≤ 1400; omega, fun j hj => ?_⟩, a5, a6⟩
      have hj : j < k := hj
      exact a4 j (by omega)
    · rw [if_neg h2, if_neg (fun w => h2 w.2)]
      exact ⟨σ1, rfl, _, v, M1, V.thr 0⟩
theorem v_whole (hQ : kM Q) {σ : g_S} (M : MSt Q σ0 σ z v) (V42 : v 42 = 1) {a : Nat} {op : Int32} (ha : a < 16) (fa : fOK (v (2 * a), v (2 * a + 1), z.2.1 a)) (hop : op = 3 ∨ op = 4 ∨ op = 5 ∨ op = 6) :
    ∃ σ' v', fX8_whole σ (Q 0) (nI a) op = some σ' ∧ MSt Q σ0 σ' z v' ∧ v' 32 = v (2 * a) / v (2 * a + 1) + cAw (v (2 * a), v (2 * a + 1), z.2.1 a) op ∧ v' 33 = 1 ∧ ∀ i, i < 32 ∨ i = 42 → v' i = v i := by
  obtain ⟨x1, x2, x3, x4, x5, x6⟩ := id fa
  simp only at x1 x2 x3 x4 x5 x6
  unfold fX8_whole
  rw [two_nI, nI_1]
  obtain ⟨σ1, v1, e1, M1, g1, g2, f1⟩ := v_divides hQ M (x := 2 * a) (y := 2 * a + 1) (by omega) (by omega) (by omega) (by omega) (TOP_262 x1) (by omega)
  have e2 := v_isZero hQ M1 (x := 36) (by decide) (by decide)
  rw [g2] at e2
  rw [show (36 : Int32) = nI 36 from rfl]
  simp only [rS hQ M, e1, Option.bind_some, rS hQ M1, e2]
  have hml := Nat.mod_lt (v (2 * a)) x2
  have hdl := Nat.div_le_self (v (2 * a)) (v (2 * a + 1))
  have b1 := v_bel hQ M1 ha
  have kd : v1 (2 * a + 1) = v (2 * a + 1) := f1 _ (by omega) (by omega)
  -- the end: 32 is the quotient, or one more
  have last : ∀ (σ2 : g_S) (v2 : Nat → Nat) (u : Nat), u ≤ 1 → MSt Q σ0 σ2 z v2 → v2 35 = v (2 * a) / v (2 * a + 1) → (∀ i, i < 32 ∨ i = 42 → v2 i = v i) → ∃ σ' v', BX8_whole_137 σ2 (Q 0) (nI u) = some σ' ∧ MSt Q σ0 σ' z v' ∧ v' 32 = v (2 * a) / v (2 * a + 1) + u ∧ v' 33 = 1 ∧ ∀ i, i < 32 ∨ i = 42 → v' i = v i := by
    intro σ2 v2 u hu M2 k35 kfr
    unfold BX8_whole_137 BX8_whole_160
    rw [show (35 : Int32) = nI 35 from rfl, show (32 : Int32) = nI 32 from rfl, show (33 : Int32) = nI 33 from rfl, show (42 : Int32) = nI 42 from rfl, show (1 : Int32) = nI 1 from rfl]
    obtain ⟨σ3, e3, M3⟩ := v_copy hQ M2 (x := 35) (w := 32) (by decide) (by decide) (by decide) (by decide)
    rw [k35] at M3
    simp only [rS hQ M2, e3, Option.bind_some]
    rcases Nat.eq_zero_or_pos u with q | q
    · subst q
      rw [if_pos (show nI 0 = 0 from rfl)]
      obtain ⟨σ4, e4, M4⟩ := v_small hQ M3 (x := 33) (n := 1) (by decide) (by decide)
      refine ⟨σ4, _, ?_, M4, by rw [va_up_ne _ _ (by decide), va_up_self]; rfl, va_up_self _ _ _, fun i hi => by rw [va_up_ne _ _ (by omega), va_up_ne _ _ (by omega), kfr i hi]⟩
      simp only [rS hQ M3, e4, Option.bind_some]
    · have q1 : u = 1 := by omega
      subst q1
      rw [if_neg (show ¬ nI 1 = 0 by decide)]
      have k42 : va_up v2 32 (v (2 * a) / v (2 * a + 1)) 42 = 1 := by rw [va_up_ne _ _ (by decide), kfr 42 (Or.inr rfl), V42]
      have k35' : va_up v2 32 (v (2 * a) / v (2 * a + 1)) 35 = v (2 * a) / v (2 * a + 1) := by rw [va_up_ne _ _ (by decide), k35]
      obtain ⟨σ4, e4, M4⟩ := v_add hQ M3 (i := 32) (a := 35) (b := 42) (by decide) (by decide) (by decide) (by decide) (by decide) (by decide) (by decide) (by rw [k35']; exact TOP_262 (by omega)) (by rw [k42]; exact TOP_262 TOP_1)
      rw [k35', k42] at M4
      obtain ⟨σ5, e5, M5⟩ := v_small hQ M4 (x := 33) (n := 1) (by decide) (by decide)
      refine ⟨σ5, _, ?_, M5, by rw [va_up_ne _ _ (by decide), va_up_self], va_up_self _ _ _, fun i hi => by rw [va_up_ne _ _ (by omega), va_up_ne _ _ (by omega), va_up_ne _ _ (by omega), kfr i hi]⟩
      simp only [rS hQ M3, e4, Option.bind_some, rS hQ M4, e5]
  have l0 := last σ1 v1 0 (by omega) M1 g1 (fun i hi => f1 i (by omega) (by omega))
  have l1 := last σ1 v1 1 (by omega) M1 g1 (fun i hi => f1 i (by omega) (by omega))
  rw [nI_0] at l0
  have hk : ∀ {σ2 : g_S} {u w : Nat}, u = w → (∃ σ' v', BX8_whole_137 σ2 (Q 0) (nI u) = some σ' ∧ MSt Q σ0 σ' z v' ∧ v' 32 = v (2 * a) / v (2 * a + 1) + u ∧ v' 33 = 1 ∧ ∀ i, i < 32 ∨ i = 42 → v' i = v i) → (∃ σ' v', BX8_whole_137 σ2 (Q 0) (nI u) = some σ' ∧ MSt Q σ0 σ' z v' ∧ v' 32 = v (2 * a) / v (2 * a + 1) + w ∧ v' 33 = 1 ∧ ∀ i, i < 32 ∨ i = 42 → v' i = v i) := fun e h => by rw [← e]; exact h
  unfold BX8_whole_26 BX8_whole_49 BX8_whole_75 BX8_whole_76
  by_cases hr : v (2 * a) % v (2 * a + 1) = 0
  · have hc : cAw (v (2 * a), v (2 * a + 1), z.2.1 a) op = 0 := (cAw_le (v (2 * a), v (2 * a + 1), z.2.1 a) op x5).2 hr
    rw [hc]
    by_cases h6 : op = 6
    · -- twice 0 is less than the denominator
      subst h6
      obtain ⟨σ2, e3, M2⟩ := v_add hQ M1 (i := 43) (a := 36) (b := 36) (by decide) (by decide) (by decide) (by decide) (by decide) (by decide) (by decide) (by rw [g2]; exact TOP_262 (by omega)) (by rw [g2]; exact TOP_262 (by omega))
      rw [g2, hr] at M2
      have e4 := v_order hQ M2 (i := 43) (j := 2 * a + 1) (by decide) (by omega) (by decide) (by omega)
      rw [va_up_self, va_up_ne _ _ (show 2 * a + 1 ≠ 43 by omega), kd, cmpI_lt (by omega)] at e4
      rw [if_neg (by rw [if_pos hr]; decide), if_neg (by decide), if_neg (by decide), if_pos rfl, two_nI, nI_1, show (36 : Int32) = nI 36 from rfl, show (43 : Int32) = nI 43 from rfl]
      simp only [rS hQ M1, e3, Option.bind_some, rS hQ M2, e4]
      unfold BX8_whole_134 BX8_whole_135
      rw [if_neg (by decide), if_neg (by decide)]
      have := last σ2 _ 0 (by omega) M2 (by rw [va_up_ne _ _ (by decide)]; exact g1) (fun i hi => by rw [va_up_ne _ _ (by omega)]; exact f1 i (by omega) (by omega))
      rw [nI_0] at this
      exact this
    · rw [if_neg (by rw [if_pos hr]; decide)]
      rcases hop with rfl | rfl | rfl | rfl
      · rw [if_pos rfl, if_pos rfl, if_neg (by decide)]; exact l0
      · rw [if_neg (by decide), if_pos rfl, if_pos rfl, if_neg (by decide)]; exact l0
      · rw [if_neg (by decide), if_neg (by decide), if_neg (by decide)]; exact l0
      · exact absurd rfl h6
  · rw [if_pos (by rw [if_neg hr])]
    have cw : cAw (v (2 * a), v (2 * a + 1), z.2.1 a) op = if op = 5 then 0 else if op = 6 then (if v (2 * a + 1) < 2 * (v (2 * a) % v (2 * a + 1)) ∨ (2 * (v (2 * a) % v (2 * a + 1)) = v (2 * a + 1) ∧ v (2 * a) / v (2 * a + 1) % 2 = 1) then 1 else 0) else if op = 3 then z.2.1 a else 1 - z.2.1 a := by
      unfold cAw
      exact if_neg hr
    rw [cw]
    rcases hop with rfl | rfl | rfl | rfl
    · rw [if_neg (show ¬ (3 : Int32) = 5 by decide), if_neg (show ¬ (3 : Int32) = 6 by decide), if_pos rfl, if_pos rfl, if_neg (by decide)]
      simp only [rS hQ M1, b1, Option.bind_some]
      by_cases hb : z.2.1 a = 0
      · rw [if_pos (by rw [hb]; rfl), hb]; exact l0
      · rw [if_neg (fun w => hb ((ja_e0 (by omega)).mp w)), show z.2.1 a = 1 by omega]; exact l1
    · rw [if_neg (show ¬ (4 : Int32) = 5 by decide), if_neg (show ¬ (4 : Int32) = 6 by decide), if_neg (show ¬ (4 : Int32) = 3 by decide), if_neg (show ¬ (4 : Int32) = 3 by decide), if_pos rfl, if_neg (by decide)]
      simp only [rS hQ M1, b1, Option.bind_some]
      by_cases hb : z.2.1 a = 0
      · rw [if_pos (by rw [hb]; rfl), hb]; exact l1
      · rw [if_neg (fun w => hb ((ja_e0 (by omega)).mp w)), show 1 - z.2.1 a = 0 by omega]; exact l0
    · rw [if_pos rfl, if_neg (by decide), if_neg (by decide), if_neg (by decide)]; exact l0
    · rw [if_neg (show ¬ (6 : Int32) = 5 by decide), if_pos rfl, if_neg (show ¬ (6 : Int32) = 3 by decide), if_neg (show ¬ (6 : Int32) = 4 by decide), if_pos rfl, two_nI, nI_1, show (36 : Int32) = nI 36 from rfl, show (43 : Int32) = nI 43 from rfl]
      obtain ⟨σ2, e3, M2⟩ := v_add hQ M1 (i := 43) (a := 36) (b := 36) (by decide) (by decide) (by decide) (by decide) (by decide) (by decide) (by decide) (by rw [g2]; exact TOP_262 (by omega)) (by rw [g2]; exact TOP_262 (by omega))
      rw [g2, show v (2 * a) % v (2 * a + 1) + v (2 * a) % v (2 * a + 1) = 2 * (v (2 * a) % v (2 * a + 1)) by omega] at M2
      have e4 := v_order hQ M2 (i := 43) (j := 2 * a + 1) (by decide) (by omega) (by decide) (by omega)
      rw [va_up_self, va_up_ne _ _ (show 2 * a + 1 ≠ 43 by omega), kd] at e4
      have e5 := v_at0 hQ M2 (x := 35) (by decide) (by decide)
      rw [va_up_ne _ _ (show (35 : Nat) ≠ 43 by decide), g1] at e5
      have m0 := last σ2 _ 0 (by omega) M2 (by rw [va_up_ne _ _ (by decide)]; exact g1) (fun i hi => by rw [va_up_ne _ _ (by omega)]; exact f1 i (by omega) (by omega))
      have m1 := last σ2 _ 1 (by omega) M2 (by rw [va_up_ne _ _ (by decide)]; exact g1) (fun i hi => by rw [va_up_ne _ _ (by omega)]; exact f1 i (by omega) (by omega))
      rw [nI_0] at m0
      simp only [rS hQ M1, e3, Option.bind_some, rS hQ M2, e4]
      unfold BX8_whole_130 BX8_whole_134 BX8_whole_135
      by_cases hc : v (2 * a + 1) < 2 * (v (2 * a) % v (2 * a + 1))
      · rw [if_pos ((cmpI_pos _ _).mpr hc), if_pos (Or.inl hc)]; exact m1
      · rw [if_neg (fun w => hc ((cmpI_pos _ _).mp w))]
        by_cases he : 2 * (v (2 * a) % v (2 * a + 1)) = v (2 * a + 1)
        · rw [if_pos ((cmpI_z _ _).mpr he), show (35 : Int32) = nI 35 from rfl, e5]
          simp only [Option.bind_some]
          have er : g_irem (nI (v (2 * a) / v (2 * a + 1) % 65536)) 2 = nI (v (2 * a) / v (2 * a + 1) % 65536 % 2) := pk_rem (d := 2) (by omega) (by decide) (by decide)
          have emm : v (2 * a) / v (2 * a + 1) % 65536 % 2 = v (2 * a) / v (2 * a + 1) % 2 := by omega
          rw [er, emm]
          by_cases ho : v (2 * a) / v (2 * a + 1) % 2 = 1
          · rw [if_pos (by rw [ho]; rfl), if_pos (Or.inr ⟨he, ho⟩)]; exact m1
          · rw [if_neg (fun w => ho ((ja_e1 (by omega)).mp w)), if_neg (fun w => by rcases w with w | w; exact hc w; exact ho w.2)]; exact m0
        · rw [if_neg (fun w => he ((cmpI_z _ _).mp w)), if_neg (fun w => by rcases w with w | w; exact hc w; exact he w.1)]; exact m0
end MU
