/-! the reference: a digit of the quotient, the division -/
theorem jl_le {a b : Nat} (ha : a < 9223372036854775808) (hb : b < 9223372036854775808) : lg_cmp (lN a) (lN b) ≤ 0 ↔ a ≤ b := by
  rw [lg_cmp_le, pk_lLE ha hb]
def wA (A : Nat → Nat) (n : Nat) : Nat → Nat := fun k => if k < n then A k else 0
theorem wA_lt {A : Nat → Nat} (h : ∀ k, A k < 65536) (n k : Nat) : wA A n k < 65536 := by
  unfold wA; split
  · exact h k
  · decide
theorem wA_v (A : Nat → Nat) (n : Nat) : wv 65536 (wA A n) (n + 1) = wv 65536 A n := by
  rw [wv_s]
  have e : wA A n n = 0 := if_neg (Nat.lt_irrefl n)
  rw [e, Nat.zero_mul, Nat.add_zero]
  exact wv_congr (fun i hi => if_pos hi)
section MH
variable {Q : Nat → Nat} {σ0 : g_S} {z : g_Z} {s : Nat → Nat} {lf : Nat → Nat → Nat} {v : Nat → Nat}
theorem rMo (hQ : kM Q) {β : Type} (X : Option β) : ((g_o (md Q σ0 z s lf) 8 (Q 0)).bind fun _ => X) = X := by
  rw [m_o hQ]
  rfl
theorem u_take (hQ : kM Q) {t d n : Nat} (hn : t + n < 264) (hd : d < 65536) (bA : ∀ k, lf 41 k < 65536) (bl : ∀ j, lf 40 j < 65536) : ∃ g o, fX8_takes (md Q σ0 z s lf) (Q 0) (nI t) (nI n) (lN d) = some (if 0 < o then 1 else 0, md Q σ0 z s (va_up lf 40 g)) ∧ (∀ j, g j < 65536) ∧ (∀ j, j < t ∨ t + n < j → g j = lf 40 j) ∧ wv 65536 (fun j => g (t + j)) (n + 1) + d * wv 65536 (lf 41) n = wv 65536 (fun j => lf 40 (t + j)) (n + 1) + 65536 ^ (n + 1) * o := by
  obtain ⟨g, o, e1, e2, e3, e4⟩ := u_takeL (σ0 := σ0) (z := z) (s := s) (t := t) (d := d) (n := n) hQ hn hd (wA_lt bA n) (if_neg (Nat.lt_irrefl n)) g_fuel 0 0 lf (fuel_ge (by omega)) (by omega) (by omega) bl (fun j hj => (if_pos hj).symm)
  rw [Nat.sub_zero, fun_z, Nat.add_zero t, Nat.add_zero (wv _ _ _), wA_v] at e4
  refine ⟨g, o, ?_, e2, fun j hj => e3 j (by omega), e4⟩
  unfold fX8_takes
  rw [show (0 : Int64) = lN 0 from rfl, ← nI_0]
  exact e1
theorem u_give (hQ : kM Q) {t n : Nat} (hn : t + n < 264) (bA : ∀ k, lf 41 k < 65536) (bl : ∀ j, lf 40 j < 65536) : ∃ g o, fX8_givesBack (md Q σ0 z s lf) (Q 0) (nI t) (nI n) = some (md Q σ0 z s (va_up lf 40 g)) ∧ (∀ j, g j < 65536) ∧ (∀ j, j < t ∨ t + n < j → g j = lf 40 j) ∧ wv 65536 (fun j => g (t + j)) (n + 1) + 65536 ^ (n + 1) * o = wv 65536 (fun j => lf 40 (t + j)) (n + 1) + wv 65536 (lf 41) n := by
  obtain ⟨g, o, e1, e2, e3, e4⟩ := u_giveL (σ0 := σ0) (z := z) (s := s) (t := t) (n := n) hQ hn (wA_lt bA n) (if_neg (Nat.lt_irrefl n)) g_fuel 0 0 lf (fuel_ge (by omega)) (by omega) (by omega) bl (fun j hj => (if_pos hj).symm)
  rw [Nat.sub_zero, fun_z, Nat.add_zero t, Nat.zero_add (wv _ _ _), wA_v] at e4
  refine ⟨g, o, ?_, e2, fun j hj => e3 j (by omega), e4⟩
  unfold fX8_givesBack
  rw [← nI_0]
  exact e1
theorem mul16 {a b : Nat} (ha : a < 65536) (hb : b < 65536) : a * b ≤ 4294836225 := Nat.mul_le_mul (show a ≤ 65535 by omega) (show b ≤ 65535 by omega)
theorem u_guessL (hQ : kM Q) {t m v1 v0 u0 N R V P V' R' : Nat} (ht : t + (m + 2) < 264) (g0 : lf 41 m = v0) (gu : lf 40 (t + m) = u0) (hR : R = (N * 65536 + u0) * P + R') (hR' : R' < P) (hV : V = (v1 * 65536 + v0) * P + V') (hV' : V' < P) (bv0 : v0 < 65536) (bu0 : u0 < 65536) (bv1 : v1 < 65536) (hb : 65536 ≤ 2 * v1) (hlt : R < 65536 * V) (hN : N < (v1 + 1) * 65536) :
    ∀ (f d l : Nat), 65536 ≤ l + 32768 * f → d * v1 + l = N → R < (d + 1) * V → d ≤ 65537 → ∃ d', LX8_guess_61 (f + 1) (md Q σ0 z s lf) (Q 0) (nI t) (nI (m + 2)) (lN v1) (lN d) (lN l) = some (lN d', md Q σ0 z s lf) ∧ d' < 65536 ∧ R < (d' + 1) * V ∧ d' * V < R + V := by
  have h4 : (40 : Nat) < 44 := by decide
  have h5 : (41 : Nat) < 44 := by decide
  have hNb : N < 4294967296 := by
    have : (v1 + 1) * 65536 ≤ 65536 * 65536 := Nat.mul_le_mul_right _ (by omega)
    omega
  intro f
  induction f with
  | zero =>
    intro d l hf e h1 hd
    unfold LX8_guess_61 BX8_guess_137
    rw [show (65536 : Int64) = lN 65536 from rfl, if_pos ((jl_ge (by omega) (by omega)).mpr (by omega))]
    have hdb : d < 65536 := by
      rcases Nat.lt_or_ge d 65536 with q | q
      · exact q
      · have : 65536 * v1 ≤ d * v1 := Nat.mul_le_mul_right _ q
        omega
    have hm := mul16 hdb bv0
    exact ⟨d, rfl, hdb, h1, kd_hi hR hV hV' e (by omega) (by omega) (by decide) (by omega)⟩
  | succ f ih =>
    intro d l hf e h1 hd
    rw [LX8_guess_61]
    unfold BX8_guess_137 BX8_guess_121
    rw [show (65536 : Int64) = lN 65536 from rfl]
    simp only [g_let]
    have dec : ∀ (hd1 : 1 ≤ d) (hRd : R < d * V), ∃ d', LX8_guess_61 (f + 1) (md Q σ0 z s lf) (Q 0) (nI t) (nI (m + 2)) (lN v1) (lN d - 1) (lN l + lN v1) = some (lN d', md Q σ0 z s lf) ∧ d' < 65536 ∧ R < (d' + 1) * V ∧ d' * V < R + V := by
      intro hd1 hRd
      rw [show (1 : Int64) = lN 1 from rfl, lN_sub hd1, lN_add]
      refine ih (d - 1) (l + v1) (by omega) ?_ (by rw [show d - 1 + 1 = d by omega]; exact hRd) (by omega)
      obtain ⟨q, rfl⟩ : ∃ q, d = q + 1 := ⟨d - 1, by omega⟩
      rw [Nat.add_mul, Nat.one_mul] at e
      rw [Nat.add_sub_cancel]
      omega
    by_cases hl : 65536 ≤ l
    · rw [if_pos ((jl_ge (by omega) (by omega)).mpr hl)]
      have hdb : d < 65536 := by
        rcases Nat.lt_or_ge d 65536 with q | q
        · exact q
        · have : 65536 * v1 ≤ d * v1 := Nat.mul_le_mul_right _ q
          omega
      have hm := mul16 hdb bv0
      exact ⟨d, rfl, hdb, h1, kd_hi hR hV hV' e (by omega) (by omega) (by decide) (by omega)⟩
    · rw [if_neg (fun w => hl ((jl_ge (by omega) (by omega)).mp w))]
      by_cases hdm : 65536 ≤ d
      · rw [if_pos ((jl_ge (by omega) (by omega)).mpr hdm)]
        exact dec (by omega) (Nat.lt_of_lt_of_le hlt (Nat.mul_le_mul_right _ hdm))
      · have hm := mul16 (show d < 65536 by omega) bv0
        rw [if_neg (fun w => hdm ((jl_ge (by omega) (by omega)).mp w)), ix41, ix40, nI_s2 (by omega), nI_s2 (by omega), show 264 * 41 + (m + 2) - 2 = 264 * 41 + m by omega, show 264 * 40 + (t + (m + 2)) - 2 = 264 * 40 + (t + m) by omega]
        have r1 := (rM (σ0 := σ0) (z := z) (s := s) (lf := lf) hQ).2.1
        rw [r1, Option.bind_some, m_get hQ h5 (show m < 264 by omega), Option.bind_some, Option.bind_some, m_get hQ h4 (show t + m < 264 by omega), Option.bind_some, g0, gu, ji_l (by omega), ji_l (by omega), lN_mul, lN_mul, lN_add]
        by_cases hts : d * v0 ≤ l * 65536 + u0
        · rw [if_pos ((jl_le (by omega) (by omega)).mpr hts)]
          exact ⟨d, rfl, by omega, h1, kd_hi hR hV hV' e (by omega) (by omega) (by decide) (by omega)⟩
        · rw [if_neg (fun w => hts ((jl_le (by omega) (by omega)).mp w))]
          refine dec ?_ (kd_lo hR hR' hV e (by omega))
          rcases Nat.eq_zero_or_pos d with w | w
          · rw [w, Nat.zero_mul] at hts; omega
          · exact w
theorem u_guess (hQ : kM Q) {t m : Nat} (ht : t + (m + 2) < 264) (bV : ∀ k, lf 41 k < 65536) (bR : ∀ k, lf 40 k < 65536) (hb : 65536 ≤ 2 * lf 41 (m + 1)) (hlt : wv 65536 (fun j => lf 40 (t + j)) (m + 3) < 65536 * wv 65536 (lf 41) (m + 2)) :
    ∃ d, fX8_guess (md Q σ0 z s lf) (Q 0) (nI t) (nI (m + 2)) = some (lN d, md Q σ0 z s lf) ∧ d < 65536 ∧ wv 65536 (fun j => lf 40 (t + j)) (m + 3) < (d + 1) * wv 65536 (lf 41) (m + 2) ∧ d * wv 65536 (lf 41) (m + 2) < wv 65536 (fun j => lf 40 (t + j)) (m + 3) + wv 65536 (lf 41) (m + 2) := by
  have h4 : (40 : Nat) < 44 := by decide
  have h5 : (41 : Nat) < 44 := by decide
  have b1 := bV (m + 1)
  have b0 := bV m
  have c2 := bR (t + (m + 2))
  have c1 := bR (t + (m + 1))
  have c0 := bR (t + m)
  have eV : wv 65536 (lf 41) (m + 2) = (lf 41 (m + 1) * 65536 + lf 41 m) * 65536 ^ m + wv 65536 (lf 41) m := by
    rw [wv_s, wv_s, Nat.pow_succ, Nat.add_mul]
    have : lf 41 (m + 1) * (65536 ^ m * 65536) = lf 41 (m + 1) * 65536 * 65536 ^ m := by ac_rfl
    omega
  have eR : wv 65536 (fun j => lf 40 (t + j)) (m + 3) = ((lf 40 (t + (m + 2)) * 65536 + lf 40 (t + (m + 1))) * 65536 + lf 40 (t + m)) * 65536 ^ m + wv 65536 (fun j => lf 40 (t + j)) m := by
    have p1 : 65536 ^ (m + 1) = 65536 ^ m * 65536 := Nat.pow_succ _ _
    have p2 : 65536 ^ (m + 2) = 65536 ^ m * 65536 * 65536 := by rw [Nat.pow_succ, p1]
    rw [wv_s, wv_s, wv_s, p2, p1, Nat.add_mul, Nat.add_mul, Nat.add_mul]
    have e1 : lf 40 (t + (m + 2)) * (65536 ^ m * 65536 * 65536) = lf 40 (t + (m + 2)) * 65536 * 65536 * 65536 ^ m := by ac_rfl
    have e2 : lf 40 (t + (m + 1)) * (65536 ^ m * 65536) = lf 40 (t + (m + 1)) * 65536 * 65536 ^ m := by ac_rfl
    omega
  have hV' : wv 65536 (lf 41) m < 65536 ^ m := wv_lt (fun k _ => bV k)
  have hR' : wv 65536 (fun j => lf 40 (t + j)) m < 65536 ^ m := wv_lt (fun k _ => bR _)
  obtain ⟨N, hNe⟩ : ∃ N, N = lf 40 (t + (m + 2)) * 65536 + lf 40 (t + (m + 1)) := ⟨_, rfl⟩
  have hv1 : 0 < lf 41 (m + 1) := by omega
  rw [← hNe] at eR
  have hN := kd_N eR eV hV' b0 hlt
  have hq0 : N / lf 41 (m + 1) * lf 41 (m + 1) ≤ N := Nat.div_mul_le_self _ _
  have hq2 := kd_q hq0 hN hb
  have hNb : N < 4294967296 := by omega
  obtain ⟨f, hfu⟩ : ∃ f, g_fuel = f + 1 := ⟨g_fuel - 1, by have := g_fuel_ge; omega⟩
  obtain ⟨d, g1, g2, g3, g4⟩ := u_guessL (σ0 := σ0) (z := z) (s := s) (lf := lf) hQ ht rfl rfl eR hR' eV hV' b0 c0 b1 hb hlt hN f (N / lf 41 (m + 1)) (N % lf 41 (m + 1)) (by have := g_fuel_ge; omega) (by rw [Nat.mul_comm]; exact Nat.div_add_mod _ _)
    (kd_init eR hR' eV c0 (by rw [Nat.add_mul, Nat.one_mul]; have := Nat.mod_lt N hv1; have := Nat.div_add_mod N (lf 41 (m + 1)); rw [Nat.mul_comm] at this; omega)) (by omega)
  refine ⟨d, ?_, g2, g3, g4⟩
  unfold fX8_guess
  have r1 := (rM (σ0 := σ0) (z := z) (s := s) (lf := lf) hQ).2.1
  have hne : ¬ lN (lf 41 (m + 1)) = 0 := by
    rw [show (0 : Int64) = lN 0 from rfl, pk_lEQ (by omega) (by omega)]
    omega
  have er : g_lrem (lN N) (lN (lf 41 (m + 1))) = lN (N % lf 41 (m + 1)) := pk_lRem (by omega) hv1 (by omega)
  simp only [g_let]
  rw [ix40, ix41, nI_s1 (by omega), nI_s1 (by omega), show 264 * 40 + (t + (m + 2)) - 1 = 264 * 40 + (t + (m + 1)) by omega, show 264 * 41 + (m + 2) - 1 = 264 * 41 + (m + 1) by omega, r1, Option.bind_some, m_get hQ h4 (show t + (m + 2) < 264 by omega), Option.bind_some, Option.bind_some, m_get hQ h4 (show t + (m + 1) < 264 by omega), Option.bind_some, Option.bind_some, m_get hQ h5 (show m + 1 < 264 by omega), Option.bind_some, ji_l (by omega), ji_l (by omega), ji_l (by omega), show (65536 : Int64) = lN 65536 from rfl, lN_mul, lN_add, ← hNe, g_if_pos hne, g_if_pos hne, pk_lDiv (by omega) hv1 (by omega), er, hfu]
  exact g1
/-- one digit of the quotient -/
theorem u_digit (hQ : kM Q) {t m : Nat} (ht : t + (m + 2) < 264) (bV : ∀ k, lf 41 k < 65536) (bR : ∀ k, lf 40 k < 65536) (hb : 65536 ≤ 2 * lf 41 (m + 1)) (hlt : wv 65536 (fun j => lf 40 (t + j)) (m + 3) < 65536 * wv 65536 (lf 41) (m + 2)) {β : Type} (K1 : g_S → Int64 → Option β) :
    ∃ d g, d < 65536 ∧ (∀ j, g j < 65536) ∧ (∀ j, j < t → g j = lf 40 j) ∧ wv 65536 (fun j => g (t + j)) (m + 3) < wv 65536 (lf 41) (m + 2) ∧ d * wv 65536 (lf 41) (m + 2) + wv 65536 (fun j => g (t + j)) (m + 3) = wv 65536 (fun j => lf 40 (t + j)) (m + 3) ∧
      ((fX8_guess (md Q σ0 z s lf) (Q 0) (nI t) (nI (m + 2))).bind fun r32 => (g_o r32.2 8 (Q 0)).bind fun _ => (fX8_takes r32.2 (Q 0) (nI t) (nI (m + 2)) r32.1).bind fun r34 => if r34.1 = 0 then K1 r34.2 r32.1 else (g_let (r32.1 - 1) fun v39 => (g_o r34.2 8 (Q 0)).bind fun _ => (fX8_givesBack r34.2 (Q 0) (nI t) (nI (m + 2))).bind fun r41 => K1 r41 v39)) = K1 (md Q σ0 z s (va_up lf 40 g)) (lN d) := by
  obtain ⟨d, g1, g2, g3, g4⟩ := u_guess (σ0 := σ0) (z := z) (s := s) hQ ht bV bR hb hlt
  have hVlt : wv 65536 (lf 41) (m + 2) < 65536 ^ (m + 2) := wv_lt (fun k _ => bV k)
  have hVlt2 : wv 65536 (lf 41) (m + 2) < 65536 ^ (m + 3) := Nat.lt_of_lt_of_le hVlt (Nat.pow_le_pow_right (by decide) (by omega))
  have hRlt : wv 65536 (fun j => lf 40 (t + j)) (m + 3) < 65536 ^ (m + 3) := wv_lt (fun k _ => bR _)
  obtain ⟨g, o, etk, e2, e3, e4⟩ := u_take (σ0 := σ0) (z := z) (s := s) (lf := lf) (n := m + 2) hQ ht g2 bV bR
  have hglt : wv 65536 (fun j => g (t + j)) (m + 3) < 65536 ^ (m + 3) := wv_lt (fun k _ => e2 _)
  rcases kd_end g3 g4 with ⟨q1, q2⟩ | ⟨q1, q0, q2, q3⟩
  · obtain ⟨ho, hg1, hg2⟩ := kd_b1 e4 hglt (Nat.le_of_lt hVlt2) hRlt q1 q2
    refine ⟨d, g, g2, e2, fun j hj => e3 j (Or.inl hj), hg1, hg2, ?_⟩
    rw [g1]
    simp only [Option.bind_some, rM hQ, etk]
    rw [if_pos (by rw [if_neg (show ¬ 0 < o by omega)])]
  · obtain ⟨gg, oo, egb, f2, f3, f4⟩ := u_give (σ0 := σ0) (z := z) (s := s) (lf := va_up lf 40 g) (t := t) (n := m + 2) hQ ht (fun k => by rw [va_up_ne _ _ (by decide)]; exact bV k) (by rw [va_up_self]; exact e2)
    rw [va_up_self, va_up_ne _ _ (show (41 : Nat) ≠ 40 by decide)] at f4
    rw [up_up] at egb
    have hggl : wv 65536 (fun j => gg (t + j)) (m + 3) < 65536 ^ (m + 3) := wv_lt (fun k _ => f2 _)
    have hdV : d * wv 65536 (lf 41) (m + 2) = (d - 1) * wv 65536 (lf 41) (m + 2) + wv 65536 (lf 41) (m + 2) := by
      obtain ⟨w, rfl⟩ : ∃ w, d = w + 1 := ⟨d - 1, by omega⟩
      rw [Nat.add_sub_cancel, Nat.add_mul, Nat.one_mul]
    obtain ⟨ho, hg1, hg2⟩ := kd_b2 e4 hglt hVlt2 hdV q1 q2 q3 f4 hggl
    refine ⟨d - 1, gg, by omega, f2, fun j hj => by rw [f3 j (Or.inl hj), va_up_self, e3 j (Or.inl hj)], hg1, hg2, ?_⟩
    rw [g1]
    simp only [Option.bind_some, rM hQ, etk]
    rw [if_neg (by rw [if_pos ho]; decide)]
    simp only [g_let]
    rw [egb, Option.bind_some, show (1 : Int64) = lN 1 from rfl, lN_sub q0]
theorem u_divdL (hQ : kM Q) {m : Nat} {mv hi : Int32} {A : Nat → Nat} (bA : ∀ k, A k < 65536) (hb1 : 65536 ≤ 2 * A (m + 1)) :
    ∀ (n c : Nat) (lf : Nat → Nat → Nat), c < n → c + (m + 2) ≤ 264 → (∀ j, lf 35 j < 65536) → (∀ j, lf 40 j < 65536) → lf 41 = A → wv 65536 (lf 40) (c + (m + 2)) < 65536 ^ c * wv 65536 A (m + 2) →
      ∃ gq gr, LX8_divides_124 n (md Q σ0 z s lf) (Q 0) (nI (m + 2)) mv hi (nI c - 1) = LX8_divides_124 1 (md Q σ0 z s (va_up (va_up lf 35 gq) 40 gr)) (Q 0) (nI (m + 2)) mv hi (nI 0 - 1) ∧ (∀ j, gq j < 65536) ∧ (∀ j, gr j < 65536) ∧ (∀ j, c ≤ j → gq j = lf 35 j) ∧ wv 65536 gr (m + 2) < wv 65536 A (m + 2) ∧ wv 65536 gq c * wv 65536 A (m + 2) + wv 65536 gr (m + 2) = wv 65536 (lf 40) (c + (m + 2)) ∧ (c = 0 → gr = lf 40) ∧ (0 < c → gr (m + 2) = 0) := by
  have h5 : (35 : Nat) < 44 := by decide
  have hVlt : wv 65536 A (m + 2) < 65536 ^ (m + 2) := wv_lt (fun k _ => bA k)
  intro n
  induction n with
  | zero => intro c lf h; omega
  | succ n ih =>
    intro c lf hn h264 b5 b4 eA hlt
    cases c with
    | zero =>
      rw [Nat.zero_add, Nat.pow_zero, Nat.one_mul] at hlt
      refine ⟨lf 35, lf 40, ?_, b5, b4, fun _ _ => rfl, hlt, by rw [wv_0, Nat.zero_mul, Nat.zero_add, Nat.zero_add], fun _ => rfl, fun w => by omega⟩
      rw [up_same, up_same, LX8_divides_124, LX8_divides_124, if_pos (by decide), if_pos (by decide)]
    | succ c =>
      have ecut : wv 65536 (lf 40) (c + 1 + (m + 2)) = wv 65536 (lf 40) c + 65536 ^ c * wv 65536 (fun j => lf 40 (c + j)) (m + 3) := by
        rw [show c + 1 + (m + 2) = c + (m + 3) by omega]
        exact wv_add _ _ _ _
      have hlt2 : wv 65536 (fun j => lf 40 (c + j)) (m + 3) < 65536 * wv 65536 (lf 41) (m + 2) := by
        rw [ecut, Nat.pow_succ, Nat.mul_assoc] at hlt
        rw [eA]
        exact Nat.lt_of_mul_lt_mul_left (Nat.lt_of_le_of_lt (Nat.le_add_left _ _) hlt)
      obtain ⟨d, g, k1, k2, k3, k4, k5, k6⟩ := u_digit (σ0 := σ0) (z := z) (s := s) (t := c) (lf := lf) hQ (by omega) (by rw [eA]; exact bA) b4 (by rw [eA]; exact hb1) hlt2 (fun σ x7 => BX8_divides_163 (LX8_divides_124 n) σ (Q 0) (nI (m + 2)) mv hi (nI c) x7)
      rw [eA] at k4 k5
      have etop : wv 65536 (fun j => g (c + j)) (m + 3) = wv 65536 (fun j => g (c + j)) (m + 2) + g (c + (m + 2)) * 65536 ^ (m + 2) := wv_s _ _ _
      have hz : g (c + (m + 2)) = 0 := by
        rcases Nat.eq_zero_or_pos (g (c + (m + 2))) with w | w
        · exact w
        · have : 1 * 65536 ^ (m + 2) ≤ g (c + (m + 2)) * 65536 ^ (m + 2) := Nat.mul_le_mul_right _ w
          omega
      have etop2 : wv 65536 (fun j => g (c + j)) (m + 3) = wv 65536 (fun j => g (c + j)) (m + 2) := by rw [etop, hz, Nat.zero_mul]; rfl
      rw [etop2] at k4 k5
      have ecut2 : wv 65536 g (c + (m + 2)) = wv 65536 g c + 65536 ^ c * wv 65536 (fun j => g (c + j)) (m + 2) := wv_add _ _ _ _
      have egc : wv 65536 g c = wv 65536 (lf 40) c := wv_congr (fun j hj => k3 j hj)
      have hgl := wv_lt (B := 65536) (n := c) (g := g) (fun j _ => k2 j)
      have hlt3 : wv 65536 g (c + (m + 2)) < 65536 ^ c * wv 65536 A (m + 2) := by
        have : 65536 ^ c * (wv 65536 (fun j => g (c + j)) (m + 2) + 1) ≤ 65536 ^ c * wv 65536 A (m + 2) := Nat.mul_le_mul_left _ k4
        rw [Nat.mul_add, Nat.mul_one] at this
        omega
      obtain ⟨gq, gr, e1, e2, e3, e4, e5, e6, e10, e9⟩ := ih c (va_up (va_up lf 40 g) 35 (va_up (lf 35) c d)) (by omega) (by omega) (by rw [va_up_self]; exact mup_lt b5 k1) (by rw [va_up_ne _ _ (by decide), va_up_self]; exact k2) (by rw [va_up_ne _ _ (by decide), va_up_ne _ _ (by decide)]; exact eA) (by rw [va_up_ne _ _ (by decide), va_up_self]; exact hlt3)
      have eup : va_up (va_up (va_up (va_up lf 40 g) 35 (va_up (lf 35) c d)) 35 gq) 40 gr = va_up (va_up lf 35 gq) 40 gr := by
        funext j
        unfold va_up
        split
        · rfl
        · split <;> rfl
      refine ⟨gq, gr, ?_, e2, e3, fun j hj => ?_, e5, ?_, fun w => by omega, fun _ => ?_⟩
      · rw [LX8_divides_124, nI_pred, if_neg (nI_pos (by omega))]
        rw [rMo hQ]
        refine k6.trans ?_
        unfold BX8_divides_163
        simp only [g_let]
        rw [jl_i, show (35 : Int32) = nI 35 from rfl, rMo hQ, u_puts hQ h5 (show c < 264 by omega), Option.bind_some, ja_m1, va_up_ne _ _ (show (35 : Nat) ≠ 40 by decide), e1, eup]
      · rw [e4 j (by omega), va_up_self, va_up_ne _ _ (by omega)]
      · have e7 := e4 c (Nat.le_refl c)
        rw [va_up_self, va_up_self] at e7
        rw [va_up_ne _ _ (show (40 : Nat) ≠ 35 by decide), va_up_self] at e6
        rw [wv_s, e7, Nat.add_mul, ecut, ← egc, ← k5, Nat.mul_add]
        have e8 : d * 65536 ^ c * wv 65536 A (m + 2) = 65536 ^ c * (d * wv 65536 A (m + 2)) := by ac_rfl
        omega
      · rcases Nat.eq_zero_or_pos c with w | w
        · rw [e10 w, va_up_ne _ _ (by decide), va_up_self, ← hz, w, Nat.zero_add]
        · exact e9 w
end MH
