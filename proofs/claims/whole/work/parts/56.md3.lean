/-! the reference: sums, differences, products, short divisions -/
def iZ (z : Int) : Int32 := Int32.ofInt z
theorem iZ_add (a b : Int) : iZ a + iZ b = iZ (a + b) := (Int32.ofInt_add a b).symm
theorem iZ_sub (a b : Int) : iZ a - iZ b = iZ (a - b) := (Int32.ofInt_sub a b).symm
theorem iZ_mul (a b : Int) : iZ a * iZ b = iZ (a * b) := (Int32.ofInt_mul a b).symm
theorem iZ_N (n : Nat) : nI n = iZ n := Int32.ofInt_eq_ofNat.symm
theorem iZ_toInt {z : Int} (h1 : -2147483648 ≤ z) (h2 : z < 2147483648) : (iZ z).toInt = z := Int32.toInt_ofInt_of_le h1 h2
theorem iZ_ge {z : Int} (h1 : -2147483648 ≤ z) (h2 : z < 2147483648) : 0 ≤ iZ z ↔ 0 ≤ z := by
  rw [Int32.le_iff_toInt_le, iZ_toInt h1 h2]
  rfl
section MF
variable {Q : Nat → Nat} {σ0 : g_S} {z : g_Z} {s : Nat → Nat} {lf : Nat → Nat → Nat} {v : Nat → Nat}
theorem u_addL (hQ : kM Q) {i a b N : Nat} (hi : i < 44) (ha : a < 44) (hb : b < 44) (hia : a ≠ i) (hib : b ≠ i) (sa : s a ≤ 264) (sb : s b ≤ 264) (hN : N ≤ 264) {A B : Nat → Nat} (bA : ∀ k, A k < 65536) (bB : ∀ k, B k < 65536) :
    ∀ (n k c : Nat) (lf : Nat → Nat → Nat), N - k < n → k ≤ N → c ≤ 1 → (∀ j, lf i j < 65536) → (∀ k, la s lf a k = A k) → (∀ k, la s lf b k = B k) → ∃ g o, LX8_add_40 n (md Q σ0 z s lf) (Q 0) (nI a) (nI b) (nI i) (nI N) (nI c) (nI k) = some (md Q σ0 z (va_up s i (wt g N)) (va_up lf i g)) ∧ (∀ j, g j < 65536) ∧ (∀ j, j < k → g j = lf i j) ∧ wv 65536 (fun j => g (k + j)) (N - k) + 65536 ^ (N - k) * o = c + wv 65536 (fun j => A (k + j)) (N - k) + wv 65536 (fun j => B (k + j)) (N - k) := by
  intro n
  induction n with
  | zero => intro k c lf h; omega
  | succ n ih =>
    intro k c lf hn hk hc bl eA eB
    unfold LX8_add_40
    simp only [g_let]
    by_cases hkl : k = N
    · subst hkl
      refine ⟨lf i, c, ?_, bl, fun _ _ => rfl, ?_⟩
      · rw [if_pos (nI_le (Nat.le_refl k) (by omega))]
        simp only [rM hQ, Option.bind_some]
        rw [u_trim hQ hi bl (by omega), up_same]
        rfl
      · rw [Nat.sub_self, wv_0, wv_0, wv_0]; simp
    · have b1 := bA k
      have b2 := bB k
      rw [if_neg (nI_ge (by omega) (by omega))]
      simp only [rM hQ, Option.bind_some, u_at hQ ha sa (show k < 2147483648 by omega), u_at hQ hb sb (show k < 2147483648 by omega), eA, eB, nI_add]
      rw [ji_and (by omega), ji_div (by omega), nI_1]
      simp only [u_puts hQ hi (show k < 264 by omega), Option.bind_some]
      obtain ⟨g, o, e1, e2, e3, e4⟩ := ih (k + 1) ((A k + B k + c) / 65536) (va_up lf i (va_up (lf i) k ((A k + B k + c) % 65536))) (by omega) (by omega) (by omega) (by rw [va_up_self]; exact mup_lt bl (by omega)) (fun q => by rw [la_mu hia]; exact eA q) (fun q => by rw [la_mu hib]; exact eB q)
      rw [up_up] at e1
      refine ⟨g, o, e1, e2, fun j hj => ?_, ?_⟩
      · rw [e3 j (by omega), va_up_self, va_up_ne _ _ (by omega)]
      · have e5 := e3 k (by omega)
        rw [va_up_self, va_up_self] at e5
        rw [show N - k = (N - (k + 1)) + 1 by omega, wv_step, wv_step, wv_step, e5, Nat.pow_succ, Nat.mul_comm (65536 ^ _) 65536, Nat.mul_assoc]
        generalize 65536 ^ (N - (k + 1)) * o = P at *
        omega
theorem v_add (hQ : kM Q) {σ : g_S} (M : MSt Q σ0 σ z v) {i a b : Nat} (hi : i < 44) (ha : a < 44) (hb : b < 44) (hia : a ≠ i) (hib : b ≠ i) (a4 : a ≠ 40 ∧ a ≠ 41) (b4 : b ≠ 40 ∧ b ≠ 41) (la1 : v a < 65536 ^ 262) (lb1 : v b < 65536 ^ 262) : ∃ σ', fX8_add σ (Q 0) (nI a) (nI b) (nI i) = some σ' ∧ MSt Q σ0 σ' z (va_up v i (v a + v b)) := by
  obtain ⟨s, lf, rfl, h⟩ := M
  have ga := h a ha
  have gb := h b hb
  have za := gm_size ga a4 la1
  have zb := gm_size gb b4 lb1
  obtain ⟨a1, a2, a3⟩ := id ga
  obtain ⟨b1, b2, b3⟩ := id gb
  obtain ⟨g, o, e1, e2, e3, e5⟩ := u_addL (σ0 := σ0) (z := z) (s := s) (N := max (s a) (s b) + 1) hQ hi ha hb hia hib a1 b1 (by omega) (mla_lt a2) (mla_lt b2) g_fuel 0 0 lf (fuel_ge (by omega)) (by omega) (by omega) (h i hi).2.1 (fun _ => rfl) (fun _ => rfl)
  simp only [Nat.zero_add] at e5
  rw [Nat.sub_zero, mla_wv (by omega), mla_wv (by omega), (a3 a4).2, (b3 b4).2] at e5
  have hv1 := gm_val ga a4
  have hv2 := gm_val gb b4
  have p1 : 65536 ^ s a ≤ 65536 ^ max (s a) (s b) := Nat.pow_le_pow_right (by decide) (by omega)
  have p2 : 65536 ^ s b ≤ 65536 ^ max (s a) (s b) := Nat.pow_le_pow_right (by decide) (by omega)
  have p3 : 65536 ^ (max (s a) (s b) + 1) = 65536 ^ max (s a) (s b) * 65536 := Nat.pow_succ _ _
  have ho : o = 0 := by
    rcases Nat.eq_zero_or_pos o with q | q
    · exact q
    · have : 65536 ^ (max (s a) (s b) + 1) * 1 ≤ 65536 ^ (max (s a) (s b) + 1) * o := Nat.mul_le_mul_left _ q
      omega
  rw [ho, Nat.mul_zero, Nat.add_zero] at e5
  have q := h.up (gm_trim (x := i) (c := max (s a) (s b) + 1) (by omega) e2)
  rw [show wv 65536 g (max (s a) (s b) + 1) = v a + v b from e5] at q
  refine ⟨_, ?_, _, _, rfl, q⟩
  unfold fX8_add BX8_add_30
  simp only [rM hQ, m_len hQ ha, m_len hQ hb, Option.bind_some, g_let]
  rw [show (0 : Int32) = nI 0 from rfl]
  by_cases hle : s a ≤ s b
  · rw [if_pos (nI_le hle (by omega)), nI_1, ← e1, Nat.max_eq_right hle]
  · rw [if_neg (nI_ge (by omega) (by omega)), nI_1, ← e1, Nat.max_eq_left (by omega)]
theorem u_subL (hQ : kM Q) {i a b N : Nat} (hi : i < 44) (ha : a < 44) (hb : b < 44) (hia : a ≠ i) (hib : b ≠ i) (sa : s a ≤ 264) (sb : s b ≤ 264) (hN : N ≤ 264) {A B : Nat → Nat} (bA : ∀ k, A k < 65536) (bB : ∀ k, B k < 65536) :
    ∀ (n k c : Nat) (lf : Nat → Nat → Nat), N - k < n → k ≤ N → c ≤ 1 → (∀ j, lf i j < 65536) → (∀ k, la s lf a k = A k) → (∀ k, la s lf b k = B k) → ∃ g o, LX8_subtract_14 n (md Q σ0 z s lf) (Q 0) (nI a) (nI b) (nI i) (nI N) (nI c) (nI k) = some (md Q σ0 z (va_up s i (wt g N)) (va_up lf i g)) ∧ (∀ j, g j < 65536) ∧ (∀ j, j < k → g j = lf i j) ∧ wv 65536 (fun j => g (k + j)) (N - k) + c + wv 65536 (fun j => B (k + j)) (N - k) = wv 65536 (fun j => A (k + j)) (N - k) + 65536 ^ (N - k) * o := by
  intro n
  induction n with
  | zero => intro k c lf h; omega
  | succ n ih =>
    intro k c lf hn hk hc bl eA eB
    unfold LX8_subtract_14 BX8_subtract_51
    simp only [g_let]
    by_cases hkl : k = N
    · subst hkl
      refine ⟨lf i, c, ?_, bl, fun _ _ => rfl, ?_⟩
      · rw [if_pos (nI_le (Nat.le_refl k) (by omega))]
        simp only [rM hQ, Option.bind_some]
        rw [u_trim hQ hi bl (by omega), up_same]
        rfl
      · rw [Nat.sub_self, wv_0, wv_0, wv_0]; simp
    · have b1 := bA k
      have b2 := bB k
      rw [if_neg (nI_ge (by omega) (by omega))]
      simp only [rM hQ, Option.bind_some, u_at hQ ha sa (show k < 2147483648 by omega), u_at hQ hb sb (show k < 2147483648 by omega), eA, eB]
      have ex : nI (A k) - nI (B k) - nI c = iZ ((A k : Int) - B k - c) := by rw [iZ_N, iZ_N, iZ_N, iZ_sub, iZ_sub]
      rw [ex, nI_1]
      have key : ∀ (d : Nat) (c' : Nat), c' ≤ 1 → d < 65536 → d + B k + c = A k + 65536 * c' → ∃ g o, ((fX8_puts (md Q σ0 z s lf) (Q 0) (nI i) (nI k) (nI d)).bind fun r13 => LX8_subtract_14 n r13 (Q 0) (nI a) (nI b) (nI i) (nI N) (nI c') (nI (k + 1))) = some (md Q σ0 z (va_up s i (wt g N)) (va_up lf i g)) ∧ (∀ j, g j < 65536) ∧ (∀ j, j < k → g j = lf i j) ∧ wv 65536 (fun j => g (k + j)) (N - k) + c + wv 65536 (fun j => B (k + j)) (N - k) = wv 65536 (fun j => A (k + j)) (N - k) + 65536 ^ (N - k) * o := by
        intro d c' hc' hd hdc
        rw [u_puts hQ hi (show k < 264 by omega)]
        simp only [Option.bind_some]
        obtain ⟨g, o, e1, e2, e3, e4⟩ := ih (k + 1) c' (va_up lf i (va_up (lf i) k d)) (by omega) (by omega) hc' (by rw [va_up_self]; exact mup_lt bl hd) (fun q => by rw [la_mu hia]; exact eA q) (fun q => by rw [la_mu hib]; exact eB q)
        rw [up_up] at e1
        refine ⟨g, o, e1, e2, fun j hj => ?_, ?_⟩
        · rw [e3 j (by omega), va_up_self, va_up_ne _ _ (by omega)]
        · have e5 := e3 k (by omega)
          rw [va_up_self, va_up_self] at e5
          rw [show N - k = (N - (k + 1)) + 1 by omega, wv_step, wv_step, wv_step, e5, Nat.pow_succ, Nat.mul_comm (65536 ^ _) 65536, Nat.mul_assoc]
          generalize 65536 ^ (N - (k + 1)) * o = P at *
          omega
      by_cases hlt : A k < B k + c
      · rw [if_neg (fun w => by have := (iZ_ge (by omega) (by omega)).mp w; omega)]
        have ey : iZ ((A k : Int) - B k - c) + 65536 * 1 = nI (A k + 65536 - B k - c) := by
          rw [show (65536 * 1 : Int32) = iZ 65536 from rfl, iZ_add, iZ_N]
          congr 1
          omega
        rw [ey]
        exact key _ 1 (by omega) (by omega) (by omega)
      · rw [if_pos ((iZ_ge (by omega) (by omega)).mpr (by omega))]
        have ey : iZ ((A k : Int) - B k - c) + 65536 * 0 = nI (A k - B k - c) := by
          rw [show (65536 * 0 : Int32) = iZ 0 from rfl, iZ_add, iZ_N]
          congr 1
          omega
        rw [ey]
        exact key _ 0 (by omega) (by omega) (by omega)
theorem v_sub (hQ : kM Q) {σ : g_S} (M : MSt Q σ0 σ z v) {i a b : Nat} (hi : i < 44) (ha : a < 44) (hb : b < 44) (hia : a ≠ i) (hib : b ≠ i) (a4 : a ≠ 40 ∧ a ≠ 41) (b4 : b ≠ 40 ∧ b ≠ 41) (hle : v b ≤ v a) : ∃ σ', fX8_subtract σ (Q 0) (nI a) (nI b) (nI i) = some σ' ∧ MSt Q σ0 σ' z (va_up v i (v a - v b)) := by
  obtain ⟨s, lf, rfl, h⟩ := M
  have ga := h a ha
  have gb := h b hb
  have hsb : s b ≤ s a := gm_size gb b4 (Nat.lt_of_le_of_lt hle (gm_val ga a4))
  obtain ⟨a1, a2, a3⟩ := id ga
  obtain ⟨b1, b2, b3⟩ := id gb
  obtain ⟨g, o, e1, e2, e3, e5⟩ := u_subL (σ0 := σ0) (z := z) (s := s) (N := s a) hQ hi ha hb hia hib a1 b1 (by omega) (mla_lt a2) (mla_lt b2) g_fuel 0 0 lf (fuel_ge (by omega)) (by omega) (by omega) (h i hi).2.1 (fun _ => rfl) (fun _ => rfl)
  simp only [Nat.zero_add] at e5
  rw [Nat.sub_zero, mla_wv hsb, mla_wv (Nat.le_refl (s a)), (a3 a4).2, (b3 b4).2] at e5
  have h5 := wv_lt (B := 65536) (n := s a) (g := g) (fun k _ => e2 k)
  have ho : o = 0 := by
    rcases Nat.eq_zero_or_pos o with q | q
    · exact q
    · have : 65536 ^ s a * 1 ≤ 65536 ^ s a * o := Nat.mul_le_mul_left _ q
      have h6 : wv 65536 (fun j => g j) (s a) = wv 65536 g (s a) := rfl
      omega
  rw [ho, Nat.mul_zero, Nat.add_zero] at e5
  have q := h.up (gm_trim (x := i) (c := s a) (by omega) e2)
  rw [show wv 65536 g (s a) = v a - v b by
    have h6 : wv 65536 (fun j => g j) (s a) = wv 65536 g (s a) := rfl
    omega] at q
  refine ⟨_, ?_, _, _, rfl, q⟩
  unfold fX8_subtract
  simp only [rM hQ, m_len hQ ha, Option.bind_some]
  rw [show (0 : Int32) = nI 0 from rfl]
  exact e1
-- products
theorem u_zeroL (hQ : kM Q) {a b i N : Nat} (hi : i < 44) (hN : N ≤ 264) : ∀ (n k : Nat) (lf : Nat → Nat → Nat), N - k < n → k ≤ N → (∀ j, lf i j < 65536) → (∀ j, j < k → lf i j = 0) → ∃ g, LX8_times_18 n (md Q σ0 z s lf) (Q 0) (nI a) (nI b) (nI i) (nI N) (nI k) = LX8_times_42 g_fuel (md Q σ0 z s (va_up lf i g)) (Q 0) (nI a) (nI b) (nI i) (nI N) (nI 0) ∧ (∀ j, g j < 65536) ∧ ∀ j, j < N → g j = 0 := by
  intro n
  induction n with
  | zero => intro k lf h; omega
  | succ n ih =>
    intro k lf hn hk bl hz
    unfold LX8_times_18
    by_cases hkl : k = N
    · rw [if_pos (nI_le (by omega) (by omega))]
      exact ⟨lf i, by rw [up_same]; rfl, bl, fun j hj => hz j (by omega)⟩
    · rw [if_neg (nI_ge (by omega) (by omega)), show (0 : Int32) = nI 0 from rfl]
      simp only [rM hQ, u_puts hQ hi (show k < 264 by omega), Option.bind_some, g_let]
      rw [nI_1]
      obtain ⟨g, e1, e2, e3⟩ := ih (k + 1) (va_up lf i (va_up (lf i) k 0)) (by omega) (by omega) (by rw [va_up_self]; exact mup_lt bl (by omega)) (fun j hj => by
        rw [va_up_self]
        by_cases h : j = k
        · rw [h, va_up_self]
        · rw [va_up_ne _ _ h]; exact hz j (by omega))
      rw [up_up] at e1
      exact ⟨g, e1, e2, e3⟩
theorem u_mulL (hQ : kM Q) {i a b N t V : Nat} {k42 : g_S → Nat → Int32 → Int32 → Int32 → Int32 → Int32 → Option g_S} (hi : i < 44) (hb : b < 44) (hib : b ≠ i) (sb : s b ≤ 264) (hN : N ≤ 264) (htb : t + s b < N) (hV : V < 65536) {B : Nat → Nat} (bB : ∀ k, B k < 65536) :
    ∀ (n k c : Nat) (lf : Nat → Nat → Nat), s b + 1 - k < n → k ≤ s b + 1 → c < 65536 → (∀ j, lf i j < 65536) → (∀ k, la s lf b k = B k) → ∃ g o, LX8_times_69 k42 n (md Q σ0 z s lf) (Q 0) (nI a) (nI b) (nI i) (nI N) (nI t) (lN c) (lN V) (nI k) = k42 (md Q σ0 z s (va_up lf i g)) (Q 0) (nI a) (nI b) (nI i) (nI N) (nI (t + 1)) ∧ (∀ j, g j < 65536) ∧ (∀ j, j < t + k ∨ t + s b < j → g j = lf i j) ∧ wv 65536 (fun j => g (t + k + j)) (s b + 1 - k) + 65536 ^ (s b + 1 - k) * o = c + V * wv 65536 (fun j => B (k + j)) (s b + 1 - k) + wv 65536 (fun j => lf i (t + k + j)) (s b + 1 - k) := by
  intro n
  induction n with
  | zero => intro k c lf h; omega
  | succ n ih =>
    intro k c lf hn hk hc bl eB
    unfold LX8_times_69 BX8_times_149
    simp only [rM hQ, m_len hQ hb, Option.bind_some, g_let]
    by_cases hkl : k = s b + 1
    · subst hkl
      rw [if_pos (nI_lt (by omega) (by omega)), nI_1]
      refine ⟨lf i, c, by rw [up_same], bl, fun _ _ => rfl, ?_⟩
      rw [Nat.sub_self]; simp [wv_0]
    · have b1 := bB k
      have b3 := bl (t + k)
      have hm : V * B k ≤ 65535 * 65535 := Nat.mul_le_mul (by omega) (by omega)
      rw [if_neg (nI_nlt (by omega) (by omega)), nI_add, if_neg (nI_ge (by omega) (by omega))]
      have eidx : 264 * nI i + nI t + nI k = nI (264 * i + (t + k)) := by rw [m_ix, nI_add]; congr 1; omega
      rw [eidx]
      simp only [m_get hQ hi (show t + k < 264 by omega), u_at hQ hb sb (show k < 2147483648 by omega), eB, Option.bind_some, rM hQ]
      rw [ji_l (by omega), ji_l (by omega), lN_mul, lN_add, lN_add]
      obtain ⟨T, hT⟩ : ∃ T, T = lf i (t + k) + V * B k + c := ⟨_, rfl⟩
      rw [← hT]
      have er : g_lrem (lN T) 65536 = lN (T % 65536) := pk_lRem (b := 65536) (by omega) (by decide) (by decide)
      have ed : lN T / 65536 = lN (T / 65536) := pk_lDiv (b := 65536) (by omega) (by decide) (by decide)
      rw [er, ed, jl_i]
      simp only [u_puts hQ hi (show t + k < 264 by omega), Option.bind_some]
      rw [nI_1]
      obtain ⟨g, o, e1, e2, e3, e4⟩ := ih (k + 1) (T / 65536) (va_up lf i (va_up (lf i) (t + k) (T % 65536))) (by omega) (by omega) (by omega) (by rw [va_up_self]; exact mup_lt bl (by omega)) (fun q => by rw [la_mu hib]; exact eB q)
      rw [up_up] at e1
      refine ⟨g, o, e1, e2, fun j hj => ?_, ?_⟩
      · rw [e3 j (by omega), va_up_self, va_up_ne _ _ (by omega)]
      · have e5 := e3 (t + k) (by omega)
        rw [va_up_self, va_up_self] at e5
        rw [va_up_self, show t + (k + 1) = t + k + 1 from rfl, wv_congr (g := fun j => va_up (lf i) (t + k) (T % 65536) (t + k + 1 + j)) (h := fun j => lf i (t + k + 1 + j)) (fun j _ => va_up_ne _ _ (by omega))] at e4
        rw [show s b + 1 - k = (s b + 1 - (k + 1)) + 1 by omega, wv_step, wv_step, wv_step, e5, Nat.pow_succ, Nat.mul_comm (65536 ^ _) 65536, Nat.mul_assoc, Nat.mul_add, Nat.mul_left_comm V 65536]
        generalize 65536 ^ (s b + 1 - (k + 1)) * o = P at *
        generalize V * wv 65536 (fun j => B (k + 1 + j)) (s b + 1 - (k + 1)) = P2 at *
        generalize V * B k = P3 at *
        omega
theorem u_prodL (hQ : kM Q) {i a b : Nat} (hi : i < 44) (ha : a < 44) (hb : b < 44) (hia : a ≠ i) (hib : b ≠ i) (sa : s a ≤ 264) (sb : s b ≤ 264) (hN : s a + s b ≤ 264) {A B : Nat → Nat} (bA : ∀ k, A k < 65536) (bB : ∀ k, B k < 65536) (hBz : B (s b) = 0) :
    ∀ (n t : Nat) (lf : Nat → Nat → Nat), s a - t < n → t ≤ s a → (∀ j, lf i j < 65536) → (∀ k, la s lf a k = A k) → (∀ k, la s lf b k = B k) → (∀ j, t + s b ≤ j → j < s a + s b → lf i j = 0) → wv 65536 (lf i) (t + s b) = wv 65536 A t * wv 65536 B (s b) → ∃ g, LX8_times_42 n (md Q σ0 z s lf) (Q 0) (nI a) (nI b) (nI i) (nI (s a + s b)) (nI t) = some (md Q σ0 z (va_up s i (wt g (s a + s b))) (va_up lf i g)) ∧ (∀ j, g j < 65536) ∧ wv 65536 g (s a + s b) = wv 65536 A (s a) * wv 65536 B (s b) := by
  intro n
  induction n with
  | zero => intro t lf h; omega
  | succ n ih =>
    intro t lf hn ht bl eA eB hz hw
    rw [LX8_times_42]
    simp only [rM hQ, m_len hQ ha, Option.bind_some, g_let]
    by_cases hts : t = s a
    · refine ⟨lf i, ?_, bl, ?_⟩
      · rw [if_pos (nI_le (by omega) (by omega)), u_trim hQ hi bl hN, up_same]
        rfl
      · rw [← hts]; exact hw
    · have b1 := bA t
      rw [if_neg (nI_ge (by omega) (by omega))]
      simp only [u_at hQ ha sa (show t < 2147483648 by omega), eA, Option.bind_some]
      rw [ji_l (by omega), show (0 : Int64) = lN 0 from rfl, show (0 : Int32) = nI 0 from rfl]
      obtain ⟨g1, o, e1, e2, e3, e4⟩ := u_mulL (σ0 := σ0) (z := z) (s := s) (a := a) (N := s a + s b) (t := t) (V := A t) (k42 := LX8_times_42 n) hQ hi hb hib sb hN (by omega) b1 bB g_fuel 0 0 lf (fuel_ge (by omega)) (by omega) (by omega) bl eB
      rw [e1]
      rw [Nat.sub_zero, Nat.add_zero, Nat.zero_add] at e4
      simp only [Nat.zero_add] at e4
      -- what the step adds
      have hB1 : wv 65536 (fun j => B j) (s b + 1) = wv 65536 B (s b) := by rw [wv_s, hBz, Nat.zero_mul, Nat.add_zero]
      have hl1 : wv 65536 (fun j => lf i (t + j)) (s b + 1) = wv 65536 (fun j => lf i (t + j)) (s b) := by rw [wv_s, hz (t + s b) (by omega) (by omega), Nat.zero_mul, Nat.add_zero]
      rw [hB1, hl1] at e4
      have hAt : wv 65536 A (t + 1) = wv 65536 A t + A t * 65536 ^ t := wv_s _ _ _
      have hlow : wv 65536 g1 t = wv 65536 (lf i) t := wv_congr (fun j hj => e3 j (by omega))
      have hsp := wv_add 65536 (lf i) t (s b)
      have hsp2 := wv_add 65536 g1 t (s b + 1)
      have hAlt := wv_lt (B := 65536) (n := t + 1) (g := A) (fun k _ => bA k)
      have hBlt := wv_lt (B := 65536) (n := s b) (g := B) (fun k _ => bB k)
      have htot : wv 65536 g1 (t + (s b + 1)) + 65536 ^ t * (65536 ^ (s b + 1) * o) = wv 65536 A (t + 1) * wv 65536 B (s b) := by
        rw [hsp2, hlow, hAt, Nat.add_mul, ← hw, hsp]
        have e6 : 65536 ^ t * wv 65536 (fun j => g1 (t + j)) (s b + 1) + 65536 ^ t * (65536 ^ (s b + 1) * o) = 65536 ^ t * (A t * wv 65536 B (s b)) + 65536 ^ t * wv 65536 (fun j => lf i (t + j)) (s b) := by
          rw [← Nat.mul_add, e4, Nat.mul_add]
        have e7 : A t * 65536 ^ t * wv 65536 B (s b) = 65536 ^ t * (A t * wv 65536 B (s b)) := by rw [Nat.mul_comm (A t), Nat.mul_assoc]
        rw [e7]
        omega
      have hlt : wv 65536 A (t + 1) * wv 65536 B (s b) < 65536 ^ (t + 1) * 65536 ^ s b := Nat.mul_lt_mul'' hAlt hBlt
      have ho : 65536 ^ t * (65536 ^ (s b + 1) * o) = 0 := by
        rcases Nat.eq_zero_or_pos o with q | q
        · rw [q, Nat.mul_zero, Nat.mul_zero]
        · have h1 : 65536 ^ t * (65536 ^ (s b + 1) * 1) ≤ 65536 ^ t * (65536 ^ (s b + 1) * o) := Nat.mul_le_mul_left _ (Nat.mul_le_mul_left _ q)
          have h2 : 65536 ^ (t + 1) * 65536 ^ s b = 65536 ^ t * (65536 ^ (s b + 1) * 1) := by
            rw [Nat.mul_one, ← Nat.pow_add, ← Nat.pow_add]
            congr 1
            omega
          omega
      rw [ho, Nat.add_zero, show t + (s b + 1) = t + 1 + s b by omega] at htot
      obtain ⟨g, f1, f2, f3⟩ := ih (t + 1) (va_up lf i g1) (by omega) (by omega) (by rw [va_up_self]; exact e2) (fun q => by rw [la_mu hia]; exact eA q) (fun q => by rw [la_mu hib]; exact eB q) (fun j h1 h2 => by rw [va_up_self, e3 j (by omega)]; exact hz j (by omega) h2) (by rw [va_up_self]; exact htot)
      rw [up_up] at f1
      exact ⟨g, f1, f2, f3⟩
theorem v_prod (hQ : kM Q) {σ : g_S} (M : MSt Q σ0 σ z v) {i a b : Nat} (hi : i < 44) (ha : a < 44) (hb : b < 44) (hia : a ≠ i) (hib : b ≠ i) (a4 : a ≠ 40 ∧ a ≠ 41) (b4 : b ≠ 40 ∧ b ≠ 41) (la1 : v a < TOP) (lb1 : v b < TOP) : ∃ σ', fX8_times σ (Q 0) (nI a) (nI b) (nI i) = some σ' ∧ MSt Q σ0 σ' z (va_up v i (v a * v b)) := by
  obtain ⟨s, lf, rfl, h⟩ := M
  have ga := h a ha
  have gb := h b hb
  rw [TOP_128] at la1 lb1
  have za := gm_size ga a4 la1
  have zb := gm_size gb b4 lb1
  obtain ⟨a1, a2, a3⟩ := id ga
  obtain ⟨b1, b2, b3⟩ := id gb
  obtain ⟨g0, e0, e01, e02⟩ := u_zeroL (σ0 := σ0) (z := z) (s := s) (a := a) (b := b) (N := s a + s b) hQ hi (by omega) g_fuel 0 lf (fuel_ge (by omega)) (by omega) (h i hi).2.1 (fun j hj => by omega)
  obtain ⟨g, e1, e2, e3⟩ := u_prodL (σ0 := σ0) (z := z) (s := s) hQ hi ha hb hia hib a1 b1 (by omega) (mla_lt (s := s) a2) (mla_lt (s := s) b2) (by unfold la; rw [if_neg (by omega)]) g_fuel 0 (va_up lf i g0) (fuel_ge (by omega)) (by omega) (by rw [va_up_self]; exact e01) (fun q => la_mu hia _ _) (fun q => la_mu hib _ _) (fun j h1 h2 => by rw [va_up_self]; exact e02 j h2) (by rw [va_up_self, Nat.zero_add, wv_all0 (fun j hj => e02 j (by omega)), wv_0, Nat.zero_mul])
  have hA : wv 65536 (la s lf a) (s a) = v a := by rw [show wv 65536 (la s lf a) (s a) = wv 65536 (fun k => la s lf a k) (s a) from rfl, mla_wv (Nat.le_refl _)]; exact (a3 a4).2
  have hB : wv 65536 (la s lf b) (s b) = v b := by rw [show wv 65536 (la s lf b) (s b) = wv 65536 (fun k => la s lf b k) (s b) from rfl, mla_wv (Nat.le_refl _)]; exact (b3 b4).2
  rw [hA, hB] at e3
  have q := h.up (gm_trim (x := i) (c := s a + s b) (by omega) e2)
  rw [e3] at q
  rw [up_up] at e1
  refine ⟨_, ?_, _, _, rfl, q⟩
  unfold fX8_times
  simp only [rM hQ, m_len hQ ha, m_len hQ hb, Option.bind_some, g_let]
  rw [nI_add, show (0 : Int32) = nI 0 from rfl, e0, e1]
theorem u_divL (hQ : kM Q) {i d : Nat} (hi : i < 44) (hs : s i ≤ 264) (hd : 0 < d) (hd2 : d < 65536) :
    ∀ (n c r : Nat) (lf : Nat → Nat → Nat), c < n → c ≤ s i → r < d → (∀ j, lf i j < 65536) → ∃ g r', LX8_divide_12 n (md Q σ0 z s lf) (Q 0) (nI i) (nI d) (lN r) (nI c - 1) = some (nI r', md Q σ0 z (va_up s i (wt g (s i))) (va_up lf i g)) ∧ r' < d ∧ (∀ j, g j < 65536) ∧ (∀ j, c ≤ j → g j = lf i j) ∧ wv 65536 g c * d + r' = r * 65536 ^ c + wv 65536 (lf i) c := by
  intro n
  induction n with
  | zero => intro c r lf h; omega
  | succ n ih =>
    intro c r lf hn hc hrd bl
    unfold LX8_divide_12
    simp only [g_let]
    cases c with
    | zero =>
      refine ⟨lf i, r, ?_, hrd, bl, fun j _ => rfl, by simp [wv_0]⟩
      rw [if_pos (by decide)]
      simp only [rM hQ, m_len hQ hi, Option.bind_some]
      rw [u_trim hQ hi bl hs, jl_i, up_same]
      rfl
    | succ c =>
      have b1 := bl c
      rw [nI_pred, if_neg (nI_pos (by omega))]
      have e1 : la s lf i c = lf i c := by unfold la; rw [if_pos (by omega)]
      simp only [rM hQ, u_at hQ hi hs (show c < 2147483648 by omega), Option.bind_some, e1]
      have hrm : r * 65536 + 65536 ≤ d * 65536 := by
        have : (r + 1) * 65536 ≤ d * 65536 := Nat.mul_le_mul_right _ hrd
        omega
      rw [ji_l (by omega), ji_l (by omega), show (65536 : Int64) = lN 65536 from rfl, lN_mul, lN_add]
      obtain ⟨t, ht⟩ : ∃ t, t = r * 65536 + lf i c := ⟨_, rfl⟩
      have ht2 : t < d * 65536 := by omega
      have hq : t / d < 65536 := Nat.div_lt_of_lt_mul ht2
      have hnz : ¬ lN d = 0 := by rw [show (0 : Int64) = lN 0 from rfl, pk_lEQ (by omega) (by omega)]; omega
      have er : g_lrem (lN t) (lN d) = lN (t % d) := pk_lRem (by omega) hd (by omega)
      rw [← ht, g_if_pos hnz, pk_lDiv (by omega) hd (by omega), jl_i]
      simp only [u_puts hQ hi (show c < 264 by omega), Option.bind_some]
      rw [g_if_pos hnz, er, ja_m1]
      obtain ⟨g, r', f1, f0, f2, f3, f4⟩ := ih c (t % d) (va_up lf i (va_up (lf i) c (t / d))) (by omega) (by omega) (Nat.mod_lt _ hd) (by rw [va_up_self]; exact mup_lt bl hq)
      rw [up_up] at f1
      refine ⟨g, r', f1, f0, f2, fun j hj => ?_, ?_⟩
      · rw [f3 j (by omega), va_up_self, va_up_ne _ _ (by omega)]
      · have e5 := f3 c (by omega)
        rw [va_up_self, va_up_self] at e5
        rw [va_up_self, wv_congr (g := va_up (lf i) c (t / d)) (h := lf i) (fun j hj => va_up_ne _ _ (by omega))] at f4
        have e8 : t = t / d * d + t % d := by rw [Nat.mul_comm]; exact (Nat.div_add_mod t d).symm
        rw [wv_s, wv_s, e5, Nat.add_mul, Nat.pow_succ]
        have e9 : r * (65536 ^ c * 65536) + lf i c * 65536 ^ c = t / d * 65536 ^ c * d + t % d * 65536 ^ c := by
          have : t * 65536 ^ c = r * (65536 ^ c * 65536) + lf i c * 65536 ^ c := by
            rw [ht, Nat.add_mul, Nat.mul_assoc, Nat.mul_comm 65536]
          rw [← this]
          conv => lhs; rw [e8]
          rw [Nat.add_mul, Nat.mul_assoc, Nat.mul_comm d, ← Nat.mul_assoc]
        omega
theorem v_div (hQ : kM Q) {σ : g_S} (M : MSt Q σ0 σ z v) {i d : Nat} (hi : i < 44) (i4 : i ≠ 40 ∧ i ≠ 41) (hd : 0 < d) (hd2 : d < 65536) : ∃ σ', fX8_divide σ (Q 0) (nI i) (nI d) = some (nI (v i % d), σ') ∧ MSt Q σ0 σ' z (va_up v i (v i / d)) := by
  obtain ⟨s, lf, rfl, h⟩ := M
  obtain ⟨a1, a2, a3⟩ := h i hi
  obtain ⟨g, r', f1, f0, f2, f3, f4⟩ := u_divL (σ0 := σ0) (z := z) (s := s) hQ hi a1 hd hd2 g_fuel (s i) 0 lf (fuel_ge (by omega)) (Nat.le_refl _) hd a2
  rw [Nat.zero_mul, Nat.zero_add, (a3 i4).2] at f4
  have hmod : v i % d = r' := by rw [← f4, Nat.add_comm, Nat.add_mul_mod_self_right, Nat.mod_eq_of_lt f0]
  have hdiv : v i / d = wv 65536 g (s i) := by rw [← f4, Nat.add_comm, Nat.add_mul_div_right _ _ hd, Nat.div_eq_of_lt f0, Nat.zero_add]
  have q := h.up (gm_trim (x := i) (c := s i) a1 f2)
  rw [← hdiv] at q
  refine ⟨_, ?_, _, _, rfl, q⟩
  unfold fX8_divide
  simp only [rM hQ, m_len hQ hi, Option.bind_some, g_let]
  rw [show (0 : Int64) = lN 0 from rfl, f1, hmod]
end MF
