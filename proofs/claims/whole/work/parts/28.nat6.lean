/-! shifts by less than a limb, and the highest bits, of the desk's naturals -/
theorem pow_split {a b : Nat} (h : a ≤ b) : 2 ^ b = 2 ^ a * 2 ^ (b - a) := by
  rw [← Nat.pow_add]; congr 1; omega
theorem ja_down {x y m : Nat} (hx : x < 2147483648) (hy : y < 2147483648) (hm : m < 31) : (g_iushr (nI x) (nI m) ||| g_ishl (nI y) (nI (31 - m))) &&& 2147483647 = nI (x / 2 ^ m + y % 2 ^ m * 2 ^ (31 - m)) := by
  have e31 : (2147483648 : Nat) = 2 ^ m * 2 ^ (31 - m) := pow_split (a := m) (b := 31) (by omega)
  have e32 : (4294967296 : Nat) = 2 ^ (m + 1) * 2 ^ (31 - m) := by
    rw [Nat.pow_succ, Nat.mul_assoc, Nat.mul_comm 2, ← Nat.mul_assoc, ← e31]
  have hp : 0 < 2 ^ m := Nat.pow_pos (by decide)
  have hq : 0 < 2 ^ (31 - m) := Nat.pow_pos (by decide)
  have hA : x / 2 ^ m < 2 ^ (31 - m) := Nat.div_lt_of_lt_mul (by rw [← e31]; exact hx)
  have hz : y % 2 ^ (m + 1) < 2 ^ (m + 1) := Nat.mod_lt _ (Nat.pow_pos (by decide))
  have hzq : y % 2 ^ (m + 1) * 2 ^ (31 - m) < 4294967296 := by rw [e32]; exact Nat.mul_lt_mul_of_pos_right hz hq
  have hAq : x / 2 ^ m < 4294967296 := Nat.lt_of_le_of_lt (Nat.div_le_self _ _) (by omega)
  rw [ja_ushrK (by omega) (by omega), ja_shlK y (by omega), ja_mod (y * 2 ^ (31 - m))]
  rw [show y * 2 ^ (31 - m) % 4294967296 = y % 2 ^ (m + 1) * 2 ^ (31 - m) by
    conv => lhs; rw [e32]
    exact Nat.mul_mod_mul_right _ _ _]
  rw [ja_orN hAq hzq, Nat.or_comm, Nat.mul_comm (y % 2 ^ (m + 1)), ← Nat.two_pow_add_eq_or_of_lt hA]
  have hsum : 2 ^ (31 - m) * (y % 2 ^ (m + 1)) + x / 2 ^ m < 4294967296 := by
    have : (y % 2 ^ (m + 1) + 1) * 2 ^ (31 - m) ≤ 2 ^ (m + 1) * 2 ^ (31 - m) := Nat.mul_le_mul_right _ hz
    rw [← e32, Nat.add_mul, Nat.one_mul, Nat.mul_comm] at this
    omega
  rw [ja_and hsum]
  congr 1
  have hmm : y % 2 ^ (m + 1) % 2 ^ m = y % 2 ^ m := Nat.mod_mod_of_dvd _ ⟨2, Nat.pow_succ 2 m⟩
  have hdm := Nat.div_add_mod (y % 2 ^ (m + 1)) (2 ^ m)
  rw [hmm] at hdm
  have e5 : 2 ^ (31 - m) * (y % 2 ^ (m + 1)) + x / 2 ^ m = (x / 2 ^ m + y % 2 ^ m * 2 ^ (31 - m)) + 2147483648 * (y % 2 ^ (m + 1) / 2 ^ m) := by
    conv => lhs; rw [← hdm]
    rw [Nat.mul_add, e31, Nat.mul_comm (2 ^ (31 - m)) (y % 2 ^ m), ← Nat.mul_assoc, Nat.mul_comm (2 ^ (31 - m)) (2 ^ m)]
    omega
  rw [e5, Nat.add_mul_mod_self_left]
  apply Nat.mod_eq_of_lt
  have h6 : (y % 2 ^ m + 1) * 2 ^ (31 - m) ≤ 2 ^ m * 2 ^ (31 - m) := Nat.mul_le_mul_right _ (Nat.mod_lt _ hp)
  rw [← e31, Nat.add_mul, Nat.one_mul] at h6
  omega
section NH
variable {L : g_L} {σ0 : g_S} {s : Nat → Nat} {lf : Nat → Nat → Nat} {v : Nat → Nat}
theorem p_upL (hL : g_ok L) {i j m : Nat} (hi : i < 45) (hj : j < 45) (hij : j ≠ i) (hm : m < 31) (hs : s j ≤ L.2.2 j) (hsi : s j + 1 ≤ L.2.2 i) {A : Nat → Nat} (bA : ∀ k, A k < 2147483648) :
    ∀ (n k c : Nat) (lf : Nat → Nat → Nat), s j - k < n → k ≤ s j → c < 2 ^ m → (∀ q, lf i q < 2147483648) → (∀ q, lf j q = A q) → ∃ g, LX3_becomeMovedUp_5 n (mkN L σ0 s lf) (L.1 i) (L.1 j) (nI m) (nI c) (nI k) = some (mkN L σ0 (va_up s i (wt g (s j + 1))) (va_up lf i g)) ∧ (∀ q, g q < 2147483648) ∧ (∀ q, q < k → g q = lf i q) ∧ wv 2147483648 (fun q => g (k + q)) (s j + 1 - k) = c + 2 ^ m * wv 2147483648 (fun q => A (k + q)) (s j - k) := by
  have hr := (hL.2.2.2 i hi).2
  have hp30 : 2 ^ m ≤ 2 ^ 30 := Nat.pow_le_pow_right (by decide) (by omega)
  have e30 : (2 : Nat) ^ 30 = 1073741824 := rfl
  intro n
  induction n with
  | zero => intro k c lf h; omega
  | succ n ih =>
    intro k c lf hn hk hc bl eA
    unfold LX3_becomeMovedUp_5 g_let
    simp only [n_size hL hj, n_row hL hi, n_row hL hj, Option.bind_some]
    by_cases hkl : k = s j
    · have hbd : ∀ q, va_up (lf i) (s j) c q < 2147483648 := up_lt bl (by omega)
      refine ⟨va_up (lf i) (s j) c, ?_, hbd, fun q hq => va_up_ne _ _ (by omega), ?_⟩
      · rw [if_pos (nI_le (by omega) (by omega))]
        simp only [n_set hL hi (show s j < L.2.2 i by omega), n_size hL hj, n_o hL hi, Option.bind_some]
        rw [nI_1, p_trim hL hi (by omega) (fun q _ => by rw [va_up_self]; exact hbd q), va_up_self]
        rfl
      · rw [hkl, show s j + 1 - s j = 0 + 1 by omega, wv_step, Nat.sub_self, wv_0, wv_0, va_up_self]
        simp
    · have b1 := bA k
      rw [if_neg (nI_ge (by omega) (by omega))]
      simp only [n_get hL hj (show k < L.2.2 j by omega), eA, Option.bind_some]
      have hm1 : (A k + 1) * 2 ^ m ≤ 2147483648 * 2 ^ m := Nat.mul_le_mul_right _ b1
      rw [Nat.add_mul, Nat.one_mul] at hm1
      rw [ji_l b1, ji_l (show c < 2147483648 by omega), jl_shl _ (by omega), jl_or hc (by omega)]
      obtain ⟨t, ht⟩ : ∃ t, t = A k * 2 ^ m + c := ⟨_, rfl⟩
      have ht2 : t / 2147483648 < 2 ^ m := Nat.div_lt_of_lt_mul (by omega)
      rw [← ht, jl_and (by omega), jl_ushr (by omega), jl_i, jl_i, nI_1]
      simp only [n_set hL hi (show k < L.2.2 i by omega), Option.bind_some]
      obtain ⟨g, e1, e2, e3, e4⟩ := ih (k + 1) (t / 2147483648) (va_up lf i (va_up (lf i) k (t % 2147483648))) (by omega) (by omega) ht2 (by rw [va_up_self]; exact up_lt bl (by omega)) (fun q => by rw [va_up_ne _ _ hij]; exact eA q)
      rw [up_up] at e1
      refine ⟨g, e1, e2, fun q hq => ?_, ?_⟩
      · rw [e3 q (by omega), va_up_self, va_up_ne _ _ (by omega)]
      · have e5 := e3 k (by omega)
        rw [va_up_self, va_up_self] at e5
        rw [show s j + 1 - k = (s j + 1 - (k + 1)) + 1 by omega, show s j - k = (s j - (k + 1)) + 1 by omega, wv_step, wv_step, e5, e4, Nat.mul_add (2 ^ m), Nat.mul_left_comm (2 ^ m) 2147483648, Nat.mul_comm (2 ^ m) (A k)]
        generalize 2 ^ m * wv 2147483648 (fun q => A (k + 1 + q)) (s j - (k + 1)) = P2 at *
        omega
/-- moved up: the row of s j + 1 limbs has the value times 2^m -/
theorem p_up (hL : g_ok L) {i j m : Nat} (hi : i < 45) (hj : j < 45) (hij : j ≠ i) (hm : m < 31) (h : GV L s lf v) (hsi : s j + 1 ≤ L.2.2 i) : ∃ g, fX3_becomeMovedUp (mkN L σ0 s lf) (L.1 i) (L.1 j) (nI m) = some (mkN L σ0 (va_up s i (wt g (s j + 1))) (va_up lf i g)) ∧ (∀ q, g q < 2147483648) ∧ wv 2147483648 g (s j + 1) = 2 ^ m * v j := by
  have hr := (hL.2.2.2 i hi).2
  obtain ⟨a1, a2, a3, a4⟩ := h j hj
  unfold fX3_becomeMovedUp
  rw [← nI_0]
  obtain ⟨g, e1, e2, e3, e4⟩ := p_upL (σ0 := σ0) hL hi hj hij hm a1 hsi a2 g_fuel 0 0 lf (fuel_ge (by omega)) (by omega) (Nat.pow_pos (by decide)) (h i hi).2.1 (fun _ => rfl)
  refine ⟨g, e1, e2, ?_⟩
  simp only [Nat.zero_add, Nat.sub_zero] at e4
  rw [show wv 2147483648 (fun q => g q) (s j + 1) = wv 2147483648 g (s j + 1) from rfl, show wv 2147483648 (fun q => lf j q) (s j) = wv 2147483648 (lf j) (s j) from rfl, a4] at e4
  exact e4
theorem wv_down {a e : Nat → Nat} {m : Nat} (hm : m < 31) (n : Nat) (he : ∀ k, k < n → e k = a k / 2 ^ m + a (k + 1) % 2 ^ m * 2 ^ (31 - m)) : 2 ^ m * wv 2147483648 e n + a 0 % 2 ^ m = wv 2147483648 a n + a n % 2 ^ m * 2147483648 ^ n := by
  have e31 : (2147483648 : Nat) = 2 ^ m * 2 ^ (31 - m) := pow_split (a := m) (b := 31) (by omega)
  induction n with
  | zero => simp [wv_0]
  | succ n ih =>
    have h1 := ih (fun k hk => he k (by omega))
    rw [wv_s, wv_s, he n (by omega), Nat.mul_add]
    have hx : ∀ x y q P : Nat, 2147483648 = 2 ^ m * q → 2 ^ m * ((x + y * q) * P) = 2 ^ m * x * P + y * (P * 2147483648) := fun x y q P e => by
      rw [e, Nat.add_mul, Nat.mul_add]
      ac_rfl
    have h2 : 2 ^ m * ((a n / 2 ^ m + a (n + 1) % 2 ^ m * 2 ^ (31 - m)) * 2147483648 ^ n) = (2 ^ m * (a n / 2 ^ m)) * 2147483648 ^ n + a (n + 1) % 2 ^ m * 2147483648 ^ (n + 1) := by
      rw [Nat.pow_succ]
      exact hx _ _ _ _ e31
    have h3 := Nat.div_add_mod (a n) (2 ^ m)
    have h4 : a n * 2147483648 ^ n = (2 ^ m * (a n / 2 ^ m)) * 2147483648 ^ n + a n % 2 ^ m * 2147483648 ^ n := by
      rw [← Nat.add_mul, h3]
    rw [h2]
    omega
theorem p_downL (hL : g_ok L) {i m : Nat} (hi : i < 45) (hm : m < 31) (hs : s i ≤ L.2.2 i) {A : Nat → Nat} (bA : ∀ k, A k < 2147483648) :
    ∀ (n k : Nat) (lf : Nat → Nat → Nat), s i - k < n → k ≤ s i → (∀ q, lf i q < 2147483648) → (∀ q, k ≤ q → la s lf i q = A q) → ∃ g, LX3_moveDown_2 n (mkN L σ0 s lf) (L.1 i) (nI m) (nI k) = some (mkN L σ0 (va_up s i (wt g (s i))) (va_up lf i g)) ∧ (∀ q, g q < 2147483648) ∧ (∀ q, q < k → g q = lf i q) ∧ (∀ q, k ≤ q → q < s i → g q = A q / 2 ^ m + A (q + 1) % 2 ^ m * 2 ^ (31 - m)) := by
  have hr := (hL.2.2.2 i hi).2
  have e31 : (2147483648 : Nat) = 2 ^ m * 2 ^ (31 - m) := pow_split (a := m) (b := 31) (by omega)
  intro n
  induction n with
  | zero => intro k lf h; omega
  | succ n ih =>
    intro k lf hn hk bl eA
    unfold LX3_moveDown_2 g_let
    simp only [n_size hL hi, n_o hL hi, Option.bind_some]
    by_cases hkl : k = s i
    · refine ⟨lf i, ?_, bl, fun q _ => rfl, fun q h1 h2 => by omega⟩
      rw [if_pos (nI_le (by omega) (by omega)), p_trim hL hi hs (fun q _ => bl q), up_same]
      rfl
    · have b1 := bA k
      have b2 := bA (k + 1)
      rw [if_neg (nI_ge (by omega) (by omega)), nI_1]
      simp only [p_limbAt hL hi hs (show k + 1 < 2147483648 by omega), n_row hL hi, n_get hL hi (show k < L.2.2 i by omega), Option.bind_some]
      have e0 : lf i k = A k := by
        have := eA k (Nat.le_refl k)
        unfold la at this
        rw [if_pos (by omega)] at this
        exact this
      rw [e0, eA (k + 1) (by omega), show (31 : Int32) = nI 31 from rfl, pk_sub (by omega), ja_down b1 b2 hm]
      have hbd : A k / 2 ^ m + A (k + 1) % 2 ^ m * 2 ^ (31 - m) < 2147483648 := by
        have h1 : A k / 2 ^ m < 2 ^ (31 - m) := Nat.div_lt_of_lt_mul (by rw [← e31]; exact b1)
        have h2 : (A (k + 1) % 2 ^ m + 1) * 2 ^ (31 - m) ≤ 2 ^ m * 2 ^ (31 - m) := Nat.mul_le_mul_right _ (Nat.mod_lt _ (Nat.pow_pos (by decide)))
        rw [← e31, Nat.add_mul, Nat.one_mul] at h2
        omega
      simp only [n_set hL hi (show k < L.2.2 i by omega), Option.bind_some]
      obtain ⟨g, e1, e2, e3, e4⟩ := ih (k + 1) (va_up lf i (va_up (lf i) k (A k / 2 ^ m + A (k + 1) % 2 ^ m * 2 ^ (31 - m)))) (by omega) (by omega) (by rw [va_up_self]; exact up_lt bl hbd) (fun q hq => by
        rw [← eA q (by omega)]
        unfold la
        rw [va_up_self, va_up_ne _ _ (by omega)])
      rw [up_up] at e1
      refine ⟨g, e1, e2, fun q hq => ?_, fun q h1 h2 => ?_⟩
      · rw [e3 q (by omega), va_up_self, va_up_ne _ _ (by omega)]
      · by_cases hq : q = k
        · rw [hq, e3 k (by omega), va_up_self, va_up_self]
        · exact e4 q (by omega) h2
theorem q_down (hL : g_ok L) {i m : Nat} (hi : i < 45) (hm : m < 31) (h : GV L s lf v) : ∃ s' lf', fX3_moveDown (mkN L σ0 s lf) (L.1 i) (nI m) = some (mkN L σ0 s' lf') ∧ GV L s' lf' (va_up v i (v i / 2 ^ m)) := by
  have hr := (hL.2.2.2 i hi).2
  obtain ⟨a1, a2, a3, a4⟩ := h i hi
  unfold fX3_moveDown
  rw [← nI_0]
  obtain ⟨g, e1, e2, e3, e4⟩ := p_downL (σ0 := σ0) hL hi hm a1 (la_lt (s := s) a2) g_fuel 0 lf (fuel_ge (by omega)) (by omega) a2 (fun _ _ => rfl)
  refine ⟨_, _, e1, ?_⟩
  have q := h.up (gw_trim (i := i) (c := s i) a1 e2)
  have hw := wv_down hm (s i) (fun k hk => e4 k (by omega) hk)
  rw [show wv 2147483648 (la s lf i) (s i) = wv 2147483648 (fun k => la s lf i k) (s i) from rfl, la_wv (Nat.le_refl _), a4, show la s lf i (s i) = 0 from if_neg (by omega)] at hw
  have hp : 0 < 2 ^ m := Nat.pow_pos (by decide)
  have hlt : la s lf i 0 % 2 ^ m < 2 ^ m := Nat.mod_lt _ hp
  have : v i / 2 ^ m = wv 2147483648 g (s i) := by
    rw [show v i = la s lf i 0 % 2 ^ m + 2 ^ m * wv 2147483648 g (s i) by simp at hw; omega, Nat.add_mul_div_left _ _ hp, Nat.div_eq_of_lt hlt, Nat.zero_add]
  rw [this]
  exact q
end NH
