/-! the reference: feed, textAt -/
section MX
variable {Q : Nat → Nat} {σ0 : g_S} {z : g_Z} {v : Nat → Nat} {m : g_M}
theorem v_sett (hQ : kM Q) {σ : g_S} (M : MSt Q σ0 σ z v) {k : Nat} (hk : k < 1400) (n : Nat) : ∃ σ', g_si σ 0 (Q 4) (nI k) (nI n) = some σ' ∧ MSt Q σ0 σ' (z.1, z.2.1, va_up z.2.2.1 k n, z.2.2.2) v := by
  obtain ⟨s, lf, rfl, h⟩ := M
  exact ⟨_, m_sett hQ hk n, s, lf, rfl, h⟩
theorem v_setx (hQ : kM Q) {σ : g_S} (M : MSt Q σ0 σ z v) {k : Nat} (hk : k < 4200) (n : Nat) : ∃ σ', g_si σ 0 (Q 5) (nI k) (nI n) = some σ' ∧ MSt Q σ0 σ' (z.1, z.2.1, z.2.2.1, z.2.2.2.1, va_up z.2.2.2.2.1 k n, z.2.2.2.2.2) v := by
  obtain ⟨s, lf, rfl, h⟩ := M
  exact ⟨_, m_setx hQ hk n, s, lf, rfl, h⟩
theorem v_tap (hQ : kM Q) {σ : g_S} (M : MSt Q σ0 σ z v) {k : Nat} (hk : k < 1400) : g_li σ 0 (Q 4) (nI k) = some (nI (z.2.2.1 k)) := by
  obtain ⟨s, lf, rfl, h⟩ := M
  exact m_tap hQ hk
theorem v_txt (hQ : kM Q) {σ : g_S} (M : MSt Q σ0 σ z v) {k : Nat} (hk : k < 4200) : g_li σ 0 (Q 5) (nI k) = some (nI (z.2.2.2.2.1 k)) := by
  obtain ⟨s, lf, rfl, h⟩ := M
  exact m_txt hQ hk
theorem r_feed1 (hQ : kM Q) {σ : g_S} (M : MSt Q σ0 σ z v) (ht : z.2.2.2.1 < 1400) (a b c d e : Int32) {k n : Nat} (hk : k < 20) : ∃ σ', LX8_feed_23 (n + 1) σ (Q 0) a b c d e (nI k) = LX8_feed_23 n σ' (Q 0) a b c d e (nI (k + 1)) ∧ MSt Q σ0 σ' (z.1, z.2.1, va_up z.2.2.1 z.2.2.2.1 (fb5 a b c d e k), z.2.2.2.1 + 1, z.2.2.2.2) v := by
  obtain ⟨σ1, e1, M1⟩ := v_sett hQ M ht (fb5 a b c d e k)
  obtain ⟨σ2, e2, M2⟩ := v_p5 hQ M1 (z.2.2.2.1 + 1)
  refine ⟨σ2, ?_, M2⟩
  have er : g_irem (nI k) 4 = nI (k % 4) := pk_rem (d := 4) (by omega) (by decide) (by decide)
  have byte : ∀ y : Int32, (g_ishr y (24 - (8 * (g_irem (nI k) 4)))) &&& 255 = nI (bn y (k % 4)) := fun y => by
    rw [er, i_sh _ (Nat.mod_lt _ (by decide)), i_and255]
    rfl
  have key : ∀ y : Int32, bn y (k % 4) = fb5 a b c d e k → BX8_feed_76 (LX8_feed_23 n) σ (Q 0) a b c d e (nI k) y = LX8_feed_23 n σ2 (Q 0) a b c d e (nI (k + 1)) := by
    intro y hy
    unfold BX8_feed_76
    simp only [rS hQ M, Option.bind_some]
    rw [byte, hy, e1]
    simp only [rS hQ M1, Option.bind_some]
    rw [nI_1, e2]
    simp only [Option.bind_some, g_let]
    rw [nI_1]
  rw [LX8_feed_23, show (20 : Int32) = nI 20 from rfl, show (4 : Int32) = nI 4 from rfl, show (8 : Int32) = nI 8 from rfl, show (12 : Int32) = nI 12 from rfl, show (16 : Int32) = nI 16 from rfl, if_neg (nI_ge hk (by omega))]
  by_cases h1 : k < 4
  · rw [if_neg (nI_ge h1 (by omega))]
    exact key a (by unfold fb5; rw [if_pos h1])
  · rw [if_pos (nI_le (by omega) (by omega))]
    by_cases h2 : k < 8
    · rw [if_neg (nI_ge h2 (by omega))]
      exact key b (by unfold fb5; rw [if_neg h1, if_pos h2])
    · rw [if_pos (nI_le (by omega) (by omega))]
      by_cases h3 : k < 12
      · rw [if_neg (nI_ge h3 (by omega))]
        exact key c (by unfold fb5; rw [if_neg h1, if_neg h2, if_pos h3])
      · rw [if_pos (nI_le (by omega) (by omega))]
        by_cases h4 : k < 16
        · rw [if_neg (nI_ge h4 (by omega))]
          exact key d (by unfold fb5; rw [if_neg h1, if_neg h2, if_neg h3, if_pos h4])
        · rw [if_pos (nI_le (by omega) (by omega))]
          exact key e (by unfold fb5; rw [if_neg h1, if_neg h2, if_neg h3, if_neg h4])
theorem r_feedL (hQ : kM Q) (a b c d e : Int32) : ∀ (n k : Nat) (σ : g_S) (z : g_Z), 20 - k < n → k ≤ 20 → MSt Q σ0 σ z v → z.2.2.2.1 + (20 - k) ≤ 1400 → ∃ σ' tn', LX8_feed_23 n σ (Q 0) a b c d e (nI k) = some (1, σ') ∧ MSt Q σ0 σ' (z.1, z.2.1, tn', z.2.2.2.1 + (20 - k), z.2.2.2.2) v ∧ (∀ j, j < z.2.2.2.1 → tn' j = z.2.2.1 j) ∧ ∀ i, k ≤ i → i < 20 → tn' (z.2.2.2.1 + (i - k)) = fb5 a b c d e i := by
  intro n
  induction n with
  | zero => intro k σ z h; omega
  | succ n ih =>
    intro k σ z hn hk M ht
    rcases Nat.lt_or_ge k 20 with h | h
    · obtain ⟨σ1, e1, M1⟩ := r_feed1 hQ M (by omega) a b c d e (n := n) h
      obtain ⟨σ2, tn, e2, M2, f1, f2⟩ := ih (k + 1) σ1 _ (by omega) (by omega) M1 (by show z.2.2.2.1 + 1 + (20 - (k + 1)) ≤ 1400; omega)
      simp only at M2 f1 f2
      rw [show z.2.2.2.1 + 1 + (20 - (k + 1)) = z.2.2.2.1 + (20 - k) by omega] at M2
      refine ⟨σ2, tn, by rw [e1, e2], M2, fun j hj => ?_, fun i h1 h2 => ?_⟩
      · rw [f1 j (by omega), va_up_ne _ _ (by omega)]
      · rcases Nat.lt_or_ge k i with q | q
        · have := f2 i (by omega) h2
          rw [show z.2.2.2.1 + 1 + (i - (k + 1)) = z.2.2.2.1 + (i - k) by omega] at this
          exact this
        · rw [show i = k by omega, Nat.sub_self, Nat.add_zero, f1 _ (by omega), va_up_self]
    · have hk : k = 20 := by omega
      subst hk
      refine ⟨σ, z.2.2.1, ?_, M, fun _ _ => rfl, fun i h1 h2 => by omega⟩
      rw [LX8_feed_23, if_pos (by decide)]
theorem r_feed (hQ : kM Q) {σ : g_S} (C : MS Q σ0 σ m) (a b c d e : Int32) : RM Q σ0 (fX8_feed σ (Q 0) a b c d e) (mFeed m a b c d e) := by
  obtain ⟨z, v, M, V⟩ := C
  obtain ⟨σ1, e1, M1⟩ := v_p0 hQ M 0
  rw [nI_0] at e1
  obtain ⟨a1, ⟨a2, a3, a4⟩, a5, a6⟩ := id V
  unfold fX8_feed mFeed
  simp only [e1, Option.bind_some, rS hQ M1]
  rw [a2, show (20 : Int32) = nI 20 from rfl, nI_add, show (1400 : Int32) = nI 1400 from rfl]
  by_cases h : m.2.1.1 ≤ 1380
  · rw [if_pos (nI_le (by omega) (by omega)), if_pos h]
    obtain ⟨σ2, tn, e2, M2, f1, f2⟩ := r_feedL (v := v) hQ a b c d e g_fuel 0 σ1 _ (fuel_ge (by omega)) (by omega) M1 (by show z.2.2.2.1 + 20 ≤ 1400; omega)
    rw [nI_0] at e2
    simp only at M2 f1 f2
    refine ⟨σ2, e2, _, v, M2, a1, ⟨by show z.2.2.2.1 + 20 = m.2.1.1 + 20; omega, by show m.2.1.1 + 20 ≤ 1400; omega, fun k hk => ?_⟩, a5, a6⟩
    have hk : k < m.2.1.1 + 20 := hk
    show tn k = (if k < m.2.1.1 then m.2.1.2 k else fb5 a b c d e (k - m.2.1.1)) ∧ (if k < m.2.1.1 then m.2.1.2 k else fb5 a b c d e (k - m.2.1.1)) < 256
    by_cases hl : k < m.2.1.1
    · rw [if_pos hl]
      obtain ⟨t1, t2⟩ := a4 k hl
      exact ⟨by rw [f1 k (by omega), t1], t2⟩
    · rw [if_neg hl]
      refine ⟨?_, bn_lt _ _⟩
      have := f2 (k - m.2.1.1) (by omega) (by omega)
      rw [a2, show m.2.1.1 + (k - m.2.1.1 - 0) = k by omega] at this
      exact this
  · rw [if_neg (nI_ge (by omega) (by omega)), if_neg h]
    exact ⟨σ1, rfl, _, v, M1, V.thr 0⟩
/-- textAt: the character, or 'thrown' -/
theorem r_textAt (hQ : kM Q) {σ : g_S} (C : MS Q σ0 σ m) (x : Int32) : ∃ σ', fX8_textAt σ (Q 0) x = some ((if ¬ x < 0 ∧ x < nI m.2.2.1 then nI (m.2.2.2 x.toNatClampNeg) else 0), σ') ∧ MS Q σ0 σ' m ∧ fX8_thrown σ' (Q 0) = some ((if ¬ x < 0 ∧ x < nI m.2.2.1 then 0 else 1), σ') := by
  obtain ⟨z, v, M, V⟩ := C
  obtain ⟨σ1, e1, M1⟩ := v_p0 hQ M 1
  obtain ⟨σ2, e2, M2⟩ := v_p0 hQ M 0
  rw [nI_0] at e2
  obtain ⟨a1, a2, ⟨a3, a4, a5⟩, a6⟩ := id V
  have bad : ∃ σ', BX8_textAt_13 σ (Q 0) x (Q 0) = some (0, σ') ∧ MS Q σ0 σ' m ∧ fX8_thrown σ' (Q 0) = some (1, σ') := by
    refine ⟨σ1, ?_, ⟨_, v, M1, V.thr 1⟩, ?_⟩
    · unfold BX8_textAt_13 BX8_textAt_18 BX8_textAt_38
      rw [show (1 : Int32) = nI 1 from rfl, e1]
      simp only [Option.bind_some, rS hQ M1]
      rw [if_neg (by decide)]
    · unfold fX8_thrown
      simp only [rS hQ M1, Option.bind_some]
      rfl
  unfold fX8_textAt
  by_cases h1 : x < 0
  · rw [if_pos h1, if_neg (fun w => w.1 h1), if_neg (fun w => w.1 h1)]
    exact bad
  · rw [if_neg h1]
    simp only [rS hQ M, Option.bind_some]
    rw [a3]
    by_cases h2 : x < nI m.2.2.1
    · rw [if_pos h2, if_pos ⟨h1, h2⟩, if_pos ⟨h1, h2⟩]
      obtain ⟨k, k1, rfl⟩ := nI_of h1
      have k2 : k < m.2.2.1 := by
        rcases Nat.lt_or_ge k m.2.2.1 with q | q
        · exact q
        · exact absurd h2 (nI_nlt q k1)
      rw [nI_clamp k1]
      obtain ⟨t1, t2⟩ := a5 k k2
      have e3 := v_txt hQ M2 (k := k) (by omega)
      refine ⟨σ2, ?_, ⟨_, v, M2, V.thr 0⟩, ?_⟩
      · unfold BX8_textAt_18 BX8_textAt_38
        rw [e2]
        simp only [Option.bind_some, rS hQ M2, e3]
        rw [if_pos (by rfl), t1]
      · unfold fX8_thrown
        simp only [rS hQ M2, Option.bind_some]
        rfl
    · rw [if_neg h2, if_neg (fun w => h2 w.2), if_neg (fun w => h2 w.2)]
      exact bad
end MX
