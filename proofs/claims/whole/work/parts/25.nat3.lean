/-! sums, differences, products, short divisions of the desk's naturals -/
section NS
variable {L : g_L} {σ0 : g_S} {s : Nat → Nat} {lf : Nat → Nat → Nat} {v : Nat → Nat}
theorem p_max (σ : g_S) {a b : Nat} (ha : a < 2147483648) (hb : b < 2147483648) : fJ9_max_7cf53 σ (nI a) (nI b) = some (nI (max a b), σ) := by
  unfold fJ9_max_7cf53 BJ9_max_7cf53_10
  by_cases h : a < b
  · rw [if_pos (nI_lt h (by omega)), Nat.max_eq_right (by omega)]
  · rw [if_neg (nI_nlt (by omega) (by omega)), Nat.max_eq_left (by omega)]
theorem la_up {i a : Nat} (h : a ≠ i) (g : Nat → Nat) (k : Nat) : la s (va_up lf i g) a k = la s lf a k := by
  unfold la; rw [va_up_ne _ _ h]
theorem la_lt {a : Nat} (h : ∀ k, lf a k < 2147483648) (k : Nat) : la s lf a k < 2147483648 := by
  unfold la; split
  · exact h k
  · decide
theorem la_wv {a n : Nat} (h : s a ≤ n) : wv 2147483648 (fun k => la s lf a k) n = wv 2147483648 (lf a) (s a) := by
  obtain ⟨m, rfl⟩ : ∃ m, n = s a + m := ⟨n - s a, by omega⟩
  rw [wv_top0 (fun k h1 h2 => by unfold la; rw [if_neg (by omega)])]
  exact wv_congr (fun k hk => by unfold la; rw [if_pos hk])
theorem p_sumL (hL : g_ok L) {i a b lg : Nat} (hi : i < 45) (ha : a < 45) (hb : b < 45) (hia : a ≠ i) (hib : b ≠ i) (sa : s a ≤ L.2.2 a) (sb : s b ≤ L.2.2 b) (hlg : lg + 1 ≤ L.2.2 i) {A B : Nat → Nat} (bA : ∀ k, A k < 2147483648) (bB : ∀ k, B k < 2147483648) :
    ∀ (n k c : Nat) (lf : Nat → Nat → Nat), lg - k < n → k ≤ lg → c ≤ 1 → (∀ j, lf i j < 2147483648) → (∀ k, la s lf a k = A k) → (∀ k, la s lf b k = B k) → ∃ g, LX3_becomeSum_18 n (mkN L σ0 s lf) (L.1 i) (L.1 a) (L.1 b) (nI lg) (nI c) (nI k) = some (mkN L σ0 (va_up s i (wt g (lg + 1))) (va_up lf i g)) ∧ (∀ j, g j < 2147483648) ∧ (∀ j, j < k → g j = lf i j) ∧ wv 2147483648 (fun j => g (k + j)) (lg + 1 - k) = c + wv 2147483648 (fun j => A (k + j)) (lg - k) + wv 2147483648 (fun j => B (k + j)) (lg - k) := by
  have hr := (hL.2.2.2 i hi).2
  intro n
  induction n with
  | zero => intro k c lf h; omega
  | succ n ih =>
    intro k c lf hn hk hc bl eA eB
    unfold LX3_becomeSum_18 g_let
    by_cases hkl : k = lg
    · subst hkl
      have hbd : ∀ j, va_up (lf i) k c j < 2147483648 := up_lt bl (by show _ < 2147483648; omega)
      refine ⟨va_up (lf i) k c, ?_, hbd, fun j hj => va_up_ne _ _ (by omega), ?_⟩
      · rw [if_pos (nI_le (Nat.le_refl k) (by omega)), nI_1]
        simp only [n_row hL hi, Option.bind_some, n_set hL hi (show k < L.2.2 i by omega), n_o hL hi]
        rw [p_trim hL hi (by omega) (fun j _ => by rw [va_up_self]; exact hbd j), va_up_self]
        rfl
      · rw [show k + 1 - k = 0 + 1 by omega, wv_step, Nat.sub_self, wv_0, wv_0, wv_0, va_up_self]
    · have b1 := bA k
      have b2 := bB k
      rw [if_neg (nI_ge (by omega) (by omega))]
      simp only [n_o hL ha, n_o hL hb, Option.bind_some, p_limbAt hL ha sa (show k < 2147483648 by omega), p_limbAt hL hb sb (show k < 2147483648 by omega), eA, eB, nI_add, n_row hL hi]
      rw [ja_and (by omega), ja_ushr (by omega), nI_1]
      simp only [n_set hL hi (show k < L.2.2 i by omega), Option.bind_some]
      obtain ⟨g, e1, e2, e3, e4⟩ := ih (k + 1) ((A k + B k + c) / 2147483648) (va_up lf i (va_up (lf i) k ((A k + B k + c) % 2147483648))) (by omega) (by omega) (by omega) (by rw [va_up_self]; exact up_lt bl (by show _ < 2147483648; omega)) (fun q => by rw [la_up hia]; exact eA q) (fun q => by rw [la_up hib]; exact eB q)
      rw [up_up] at e1
      refine ⟨g, e1, e2, fun j hj => ?_, ?_⟩
      · rw [e3 j (by omega), va_up_self, va_up_ne _ _ (by omega)]
      · have e5 := e3 k (by omega)
        rw [va_up_self, va_up_self] at e5
        rw [show lg + 1 - k = (lg + 1 - (k + 1)) + 1 by omega, show lg - k = (lg - (k + 1)) + 1 by omega, wv_step, wv_step, wv_step, e4, e5]
        omega
theorem q_sum (hL : g_ok L) {i a b : Nat} (hi : i < 45) (ha : a < 45) (hb : b < 45) (hia : a ≠ i) (hib : b ≠ i) (h : GV L s lf v) (h1 : s a + 1 ≤ L.2.2 i) (h2 : s b + 1 ≤ L.2.2 i) : ∃ s' lf', fX3_becomeSum (mkN L σ0 s lf) (L.1 i) (L.1 a) (L.1 b) = some (mkN L σ0 s' lf') ∧ GV L s' lf' (va_up v i (v a + v b)) := by
  have hr := (hL.2.2.2 i hi).2
  obtain ⟨a1, a2, a3, a4⟩ := h a ha
  obtain ⟨b1, b2, b3, b4⟩ := h b hb
  unfold fX3_becomeSum
  simp only [n_size hL ha, n_size hL hb, Option.bind_some, p_max _ (show s a < 2147483648 by omega) (show s b < 2147483648 by omega)]
  rw [show (0 : Int32) = nI 0 from rfl]
  obtain ⟨g, e1, e2, e3, e4⟩ := p_sumL (σ0 := σ0) hL hi ha hb hia hib a1 b1 (lg := max (s a) (s b)) (by omega) (la_lt a2) (la_lt b2) g_fuel 0 0 lf (fuel_ge (by omega)) (by omega) (by omega) (h i hi).2.1 (fun _ => rfl) (fun _ => rfl)
  refine ⟨_, _, e1, ?_⟩
  have q := h.up (gw_trim (i := i) (c := max (s a) (s b) + 1) (by omega) e2)
  simp only [Nat.zero_add, Nat.sub_zero] at e4
  rw [e4, la_wv (by omega), la_wv (by omega), a4, b4] at q
  exact q
theorem p_difL (hL : g_ok L) {i a b : Nat} (hi : i < 45) (ha : a < 45) (hb : b < 45) (hia : a ≠ i) (hib : b ≠ i) (sa : s a ≤ L.2.2 a) (sb : s b ≤ L.2.2 b) (hsi : s a ≤ L.2.2 i) {A B : Nat → Nat} (bA : ∀ k, A k < 2147483648) (bB : ∀ k, B k < 2147483648) :
    ∀ (n k c : Nat) (lf : Nat → Nat → Nat), s a - k < n → k ≤ s a → c ≤ 1 → (∀ j, lf i j < 2147483648) → (∀ k, lf a k = A k) → (∀ k, la s lf b k = B k) → ∃ g o, LX3_becomeDifference_5 n (mkN L σ0 s lf) (L.1 i) (L.1 a) (L.1 b) (nI c) (nI k) = some (mkN L σ0 (va_up s i (wt g (s a))) (va_up lf i g)) ∧ (∀ j, g j < 2147483648) ∧ (∀ j, j < k → g j = lf i j) ∧ wv 2147483648 (fun j => g (k + j)) (s a - k) + c + wv 2147483648 (fun j => B (k + j)) (s a - k) = wv 2147483648 (fun j => A (k + j)) (s a - k) + 2147483648 ^ (s a - k) * o := by
  have hr := (hL.2.2.2 i hi).2
  intro n
  induction n with
  | zero => intro k c lf h; omega
  | succ n ih =>
    intro k c lf hn hk hc bl eA eB
    unfold LX3_becomeDifference_5 g_let
    simp only [n_size hL ha, Option.bind_some]
    by_cases hkl : k = s a
    · subst hkl
      refine ⟨lf i, c, ?_, bl, fun j hj => rfl, ?_⟩
      · rw [if_pos (nI_le (Nat.le_refl _) (by omega))]
        simp only [Option.bind_some, n_o hL hi]
        rw [p_trim hL hi (by omega) (fun j _ => bl j), up_same]
        rfl
      · rw [Nat.sub_self, wv_0, wv_0, wv_0]
        simp
    · have b1 := bA k
      have b2 := bB k
      rw [if_neg (nI_ge (by omega) (by omega))]
      simp only [n_o hL hb, n_row hL ha, Option.bind_some, n_get hL ha (show k < L.2.2 a by omega), p_limbAt hL hb sb (show k < 2147483648 by omega), eA, eB, n_row hL hi]
      obtain ⟨d1, d2⟩ := ja_diff (x := A k) (y := B k) (b := c) (by omega) (by omega) hc
      rw [d1, d2, nI_1]
      simp only [n_set hL hi (show k < L.2.2 i by omega), Option.bind_some]
      obtain ⟨g, o, e1, e2, e3, e4⟩ := ih (k + 1) (if A k < B k + c then 1 else 0) (va_up lf i (va_up (lf i) k ((A k + 2147483648 - B k - c) % 2147483648))) (by omega) (by omega) (by split <;> omega) (by rw [va_up_self]; exact up_lt bl (by show _ < 2147483648; omega)) (fun q => by rw [va_up_ne _ _ hia]; exact eA q) (fun q => by rw [la_up hib]; exact eB q)
      rw [up_up] at e1
      refine ⟨g, o, e1, e2, fun j hj => ?_, ?_⟩
      · rw [e3 j (by omega), va_up_self, va_up_ne _ _ (by omega)]
      · have e5 := e3 k (by omega)
        rw [va_up_self, va_up_self] at e5
        rw [show s a - k = (s a - (k + 1)) + 1 by omega, wv_step, wv_step, wv_step, e5, Nat.pow_succ, Nat.mul_comm (2147483648 ^ _) 2147483648, Nat.mul_assoc]
        generalize 2147483648 ^ (s a - (k + 1)) * o = P at *
        split at e4 <;> omega
theorem q_dif (hL : g_ok L) {i a b : Nat} (hi : i < 45) (ha : a < 45) (hb : b < 45) (hia : a ≠ i) (hib : b ≠ i) (h : GV L s lf v) (h1 : s a ≤ L.2.2 i) (hle : v b ≤ v a) : ∃ s' lf', fX3_becomeDifference (mkN L σ0 s lf) (L.1 i) (L.1 a) (L.1 b) = some (mkN L σ0 s' lf') ∧ GV L s' lf' (va_up v i (v a - v b)) := by
  have hr := (hL.2.2.2 i hi).2
  obtain ⟨a1, a2, a3, a4⟩ := h a ha
  obtain ⟨b1, b2, b3, b4⟩ := h b hb
  have hsb : s b ≤ s a := by
    rcases Nat.lt_or_ge (s a) (s b) with q | q
    · have := wc_lt (B := 2147483648) (by decide) (fun k _ => a2 k) b3 q
      omega
    · exact q
  unfold fX3_becomeDifference
  rw [show (0 : Int32) = nI 0 from rfl]
  obtain ⟨g, o, e1, e2, e3, e4⟩ := p_difL (σ0 := σ0) hL hi ha hb hia hib a1 b1 h1 a2 (la_lt b2) g_fuel 0 0 lf (fuel_ge (by omega)) (by omega) (by omega) (h i hi).2.1 (fun _ => rfl) (fun _ => rfl)
  refine ⟨_, _, e1, ?_⟩
  have q := h.up (gw_trim (i := i) (c := s a) (by omega) e2)
  simp only [Nat.zero_add, Nat.sub_zero] at e4
  rw [la_wv hsb, a4, b4, show wv 2147483648 (fun j => g j) (s a) = wv 2147483648 g (s a) from rfl] at e4
  have h5 := wv_lt (B := 2147483648) (n := s a) (g := g) (fun k _ => e2 k)
  have h6 := wv_lt (B := 2147483648) (n := s a) (g := lf a) (fun k _ => a2 k)
  have ho : o = 0 := by
    rcases Nat.eq_zero_or_pos o with q | q
    · exact q
    · have : 2147483648 ^ s a * 1 ≤ 2147483648 ^ s a * o := Nat.mul_le_mul_left _ q
      omega
  rw [ho] at e4
  rw [show wv 2147483648 g (s a) = v a - v b by omega] at q
  exact q
end NS
