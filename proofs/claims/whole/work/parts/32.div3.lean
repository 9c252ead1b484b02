/-! the whole division of the desk's naturals -/
theorem div_uniq {Q V R X Y p : Nat} (hp : 0 < p) (hV : V = p * Y) (h : Q * V + R = p * X) (hR : R < V) : Q = X / Y ∧ R / p = X % Y := by
  subst hV
  have h1 : p * (Q * Y) + R = p * X := by rw [← h]; congr 1; ac_rfl
  have hY : 0 < Y := by
    rcases Nat.eq_zero_or_pos Y with z | z
    · rw [z, Nat.mul_zero] at hR; omega
    · exact z
  have h2 : Q * Y ≤ X := Nat.le_of_mul_le_mul_left (by omega) hp
  obtain ⟨r, rfl⟩ : ∃ r, X = Q * Y + r := ⟨X - Q * Y, by omega⟩
  rw [Nat.mul_add] at h1
  have hr : R = p * r := by omega
  rw [hr] at hR
  have hrY : r < Y := Nat.lt_of_mul_lt_mul_left hR
  constructor
  · rw [Nat.add_comm, Nat.add_mul_div_right _ _ hY, Nat.div_eq_of_lt hrY, Nat.zero_add]
  · rw [hr, Nat.mul_div_cancel_left _ hp, Nat.add_comm, Nat.add_mul_mod_self_right, Nat.mod_eq_of_lt hrY]
section DX
variable {L : g_L} {σ0 : g_S} {s : Nat → Nat} {lf : Nat → Nat → Nat} {v : Nat → Nat} {dv : Nat}
theorem p_divdL (hL : g_ok L) (hD : dvOK L σ0 dv) {xb m : Nat} {mv hi : Int32} {A : Nat → Nat} (hs : s 36 = m + 2) (hm : m + 2 ≤ L.2.2 36) (bA : ∀ k, A k < 2147483648) (hb1 : 2147483648 ≤ 2 * A (m + 1)) :
    ∀ (n c : Nat) (lf : Nat → Nat → Nat), c < n → c + (m + 2) ≤ L.2.2 35 → c ≤ L.2.2 34 → (∀ j, lf 34 j < 2147483648) → (∀ j, lf 35 j < 2147483648) → lf 36 = A → wv 2147483648 (lf 35) (c + (m + 2)) < 2147483648 ^ c * wv 2147483648 A (m + 2) →
      ∃ gq gr, LX1_divide_116 n (mkN L σ0 s lf) dv xb mv hi (nI c - 1) = LX1_divide_116 1 (mkN L σ0 s (va_up (va_up lf 34 gq) 35 gr)) dv xb mv hi (nI 0 - 1) ∧ (∀ j, gq j < 2147483648) ∧ (∀ j, gr j < 2147483648) ∧ (∀ j, c ≤ j → gq j = lf 34 j) ∧ wv 2147483648 gr (m + 2) < wv 2147483648 A (m + 2) ∧ wv 2147483648 gq c * wv 2147483648 A (m + 2) + wv 2147483648 gr (m + 2) = wv 2147483648 (lf 35) (c + (m + 2)) := by
  have h4 : (34 : Nat) < 45 := by decide
  have h5 : (35 : Nat) < 45 := by decide
  have hr4 := (hL.2.2.2 34 h4).2
  have hr5 := (hL.2.2.2 35 h5).2
  intro n
  induction n with
  | zero => intro c lf h; omega
  | succ n ih =>
    intro c lf hn h35 h34 b4 b5 eA hlt
    cases c with
    | zero =>
      rw [Nat.zero_add, Nat.pow_zero, Nat.one_mul] at hlt
      refine ⟨lf 34, lf 35, ?_, b4, b5, fun _ _ => rfl, hlt, by rw [wv_0, Nat.zero_mul, Nat.zero_add, Nat.zero_add]⟩
      rw [up_same, up_same, LX1_divide_116, LX1_divide_116, if_pos (by decide), if_pos (by decide)]
    | succ c =>
      have ecut : wv 2147483648 (lf 35) (c + 1 + (m + 2)) = wv 2147483648 (lf 35) c + 2147483648 ^ c * wv 2147483648 (fun j => lf 35 (c + j)) (m + 3) := by
        rw [show c + 1 + (m + 2) = c + (m + 3) by omega]
        exact wv_add _ _ _ _
      have hlt2 : wv 2147483648 (fun j => lf 35 (c + j)) (m + 3) < 2147483648 * wv 2147483648 (lf 36) (m + 2) := by
        rw [ecut, Nat.pow_succ, Nat.mul_assoc] at hlt
        rw [eA]
        exact Nat.lt_of_mul_lt_mul_left (Nat.lt_of_le_of_lt (Nat.le_add_left _ _) hlt)
      obtain ⟨d, g, k1, k2, k3, k4, k5, k6⟩ := p_digit (σ0 := σ0) (t := c) hL hD hs hm (by omega) (by rw [eA]; exact bA) b5 (by rw [eA]; exact hb1) hlt2 (fun σ x6 => BX1_divide_149 (LX1_divide_116 n) σ dv xb mv hi (nI c) x6)
      rw [eA] at k4 k5
      have hgl := wv_lt (B := 2147483648) (n := c) (g := g) (fun j _ => k2 j)
      have ecut2 : wv 2147483648 g (c + (m + 2)) = wv 2147483648 g c + 2147483648 ^ c * wv 2147483648 (fun j => g (c + j)) (m + 2) := wv_add _ _ _ _
      have egc : wv 2147483648 g c = wv 2147483648 (lf 35) c := wv_congr (fun j hj => k3 j hj)
      have hlt3 : wv 2147483648 g (c + (m + 2)) < 2147483648 ^ c * wv 2147483648 A (m + 2) := by
        have : 2147483648 ^ c * (wv 2147483648 (fun j => g (c + j)) (m + 2) + 1) ≤ 2147483648 ^ c * wv 2147483648 A (m + 2) := Nat.mul_le_mul_left _ k4
        rw [Nat.mul_add, Nat.mul_one] at this
        omega
      obtain ⟨gq, gr, e1, e2, e3, e4, e5, e6⟩ := ih c (va_up (va_up lf 35 g) 34 (va_up (lf 34) c d)) (by omega) (by omega) (by omega) (by rw [va_up_self]; exact up_lt b4 k1) (by rw [va_up_ne _ _ (by decide), va_up_self]; exact k2) (by rw [va_up_ne _ _ (by decide), va_up_ne _ _ (by decide)]; exact eA) (by rw [va_up_ne _ _ (by decide), va_up_self]; exact hlt3)
      have eup : va_up (va_up (va_up (va_up lf 35 g) 34 (va_up (lf 34) c d)) 34 gq) 35 gr = va_up (va_up lf 34 gq) 35 gr := by
        funext j
        unfold va_up
        split
        · rfl
        · split <;> rfl
      refine ⟨gq, gr, ?_, e2, e3, fun j hj => ?_, e5, ?_⟩
      · rw [LX1_divide_116, nI_pred, if_neg (nI_pos (by omega))]
        simp only [dv_o hD, Option.bind_some]
        refine k6.trans ?_
        unfold BX1_divide_149 g_let
        simp only [dv_q hD, n_row hL h4, Option.bind_some, n_set hL h4 (show c < L.2.2 34 by omega)]
        rw [ja_m1, va_up_ne _ _ (show (34 : Nat) ≠ 35 by decide), e1, eup]
      · rw [e4 j (by omega), va_up_self, va_up_ne _ _ (by omega)]
      · have e7 := e4 c (Nat.le_refl c)
        rw [va_up_self, va_up_self] at e7
        rw [va_up_ne _ _ (show (35 : Nat) ≠ 34 by decide), va_up_self] at e6
        rw [wv_s, e7, Nat.add_mul, ecut, ← egc, ← k5, Nat.mul_add]
        have e8 : d * 2147483648 ^ c * wv 2147483648 A (m + 2) = 2147483648 ^ c * (d * wv 2147483648 A (m + 2)) := by ac_rfl
        omega
theorem p_divExit (hL : g_ok L) (hD : dvOK L σ0 dv) {b hi mv n : Nat} (hb : b < 45) (hb4 : b ≠ 34) (hb5 : b ≠ 35) (hmv : mv < 31) (hsb : s b = n) (hn5 : n ≤ L.2.2 35) (hhi : hi + 1 ≤ L.2.2 34) (h : ∀ i, i < 45 → i ≠ 34 → i ≠ 35 → gw L i (s i) (lf i) (v i)) (b4 : ∀ j, lf 34 j < 2147483648) (b5 : ∀ j, lf 35 j < 2147483648) :
    ∃ s' lf', LX1_divide_116 1 (mkN L σ0 s lf) dv (L.1 b) (nI mv) (nI hi) (nI 0 - 1) = some (mkN L σ0 s' lf') ∧ GV L s' lf' (va_up (va_up (va_up v 34 (wv 2147483648 (lf 34) (hi + 1))) 35 (wv 2147483648 (lf 35) n)) 35 (wv 2147483648 (lf 35) n / 2 ^ mv)) := by
  have h4 : (34 : Nat) < 45 := by decide
  have h5 : (35 : Nat) < 45 := by decide
  have hr4 := (hL.2.2.2 34 h4).2
  have hr5 := (hL.2.2.2 35 h5).2
  have hGV : GV L (va_up (va_up s 34 (wt (lf 34) (hi + 1))) 35 (wt (lf 35) n)) lf (va_up (va_up v 34 (wv 2147483648 (lf 34) (hi + 1))) 35 (wv 2147483648 (lf 35) n)) := by
    intro i hi'
    by_cases e5 : i = 35
    · subst e5
      rw [va_up_self, va_up_self]
      exact gw_trim hn5 b5
    · rw [va_up_ne _ _ e5, va_up_ne _ _ e5]
      by_cases e4 : i = 34
      · subst e4
        rw [va_up_self, va_up_self]
        exact gw_trim hhi b4
      · rw [va_up_ne _ _ e4, va_up_ne _ _ e4]
        exact h i hi' e4 e5
  obtain ⟨s', lf', e1, e2⟩ := q_down (σ0 := σ0) (m := mv) hL h5 hmv hGV
  rw [va_up_self] at e2
  refine ⟨s', lf', ?_, e2⟩
  rw [LX1_divide_116, if_pos (by decide), nI_1]
  simp only [dv_q hD, n_o hL h4, Option.bind_some, p_trim hL h4 hhi (fun j _ => b4 j), dv_r hD, n_size hL hb, n_o hL h5]
  rw [va_up_ne _ _ hb4, hsb, p_trim hL h5 hn5 (fun j _ => b5 j)]
  simp only [dv_r hD, n_o hL h5, Option.bind_some, e1]
theorem gw_size {i n : Nat} {g : Nat → Nat} {x k : Nat} (h : gw L i n g x) (hx : x < 2147483648 ^ k) : n ≤ k := by
  obtain ⟨-, -, h3, h4⟩ := h
  rcases Nat.lt_or_ge k n with q | q
  · have h5 := wc_low (B := 2147483648) h3 (by omega)
    have h6 : 2147483648 ^ k ≤ 2147483648 ^ (n - 1) := Nat.pow_le_pow_right (by decide) (by omega)
    omega
  · exact q
theorem gw_val {i n : Nat} {g : Nat → Nat} {x : Nat} (h : gw L i n g x) : x < 2147483648 ^ n := by
  obtain ⟨-, h2, -, h4⟩ := h
  rw [← h4]
  exact wv_lt (fun k _ => h2 k)
end DX
