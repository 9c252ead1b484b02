/-! products, short products and divisions of the desk's naturals -/
section NP
variable {L : g_L} {σ0 : g_S} {s : Nat → Nat} {lf : Nat → Nat → Nat} {v : Nat → Nat}
theorem mul31 {a b : Nat} (ha : a < 2147483648) (hb : b < 2147483648) : a * b ≤ 4611686014132420609 :=
  Nat.mul_le_mul (show a ≤ 2147483647 by omega) (show b ≤ 2147483647 by omega)
theorem p_addL (hL : g_ok L) {i b cnt fr F : Nat} (hi : i < 45) (hb : b < 45) (hib : b ≠ i) (sb : cnt ≤ L.2.2 b) (hri : fr + cnt ≤ L.2.2 i) (hF : F < 2147483648) {B : Nat → Nat} (bB : ∀ k, B k < 2147483648) :
    ∀ (n k c : Nat) (lf : Nat → Nat → Nat), cnt - k < n → k ≤ cnt → c < 2147483648 → (∀ j, lf i j < 2147483648) → (∀ k, lf b k = B k) → ∃ g o, LX3_addMultiple_12 n (mkN L σ0 s lf) (L.1 i) (L.1 b) (lN F) (nI fr) (nI cnt) (lN c) (nI k) = some (nI o, mkN L σ0 s (va_up lf i g)) ∧ o < 2147483648 ∧ (∀ j, g j < 2147483648) ∧ (∀ j, j < fr + k ∨ fr + cnt ≤ j → g j = lf i j) ∧ wv 2147483648 (fun j => g (fr + k + j)) (cnt - k) + 2147483648 ^ (cnt - k) * o = c + F * wv 2147483648 (fun j => B (k + j)) (cnt - k) + wv 2147483648 (fun j => lf i (fr + k + j)) (cnt - k) := by
  have hr := (hL.2.2.2 i hi).2
  have hr' := (hL.2.2.2 b hb).2
  intro n
  induction n with
  | zero => intro k c lf h; omega
  | succ n ih =>
    intro k c lf hn hk hc bl eB
    unfold LX3_addMultiple_12 g_let
    by_cases hkl : k = cnt
    · subst hkl
      refine ⟨lf i, c, ?_, hc, bl, fun j _ => rfl, ?_⟩
      · rw [if_pos (nI_le (Nat.le_refl _) (by omega)), jl_i, up_same]
      · simp [wv_0]
    · have b1 := bB k
      have b3 := bl (fr + k)
      have hm := mul31 hF b1
      rw [if_neg (nI_ge (by omega) (by omega)), nI_add]
      simp only [n_row hL hb, n_row hL hi, Option.bind_some, n_get hL hb (show k < L.2.2 b by omega), n_get hL hi (show fr + k < L.2.2 i by omega), eB]
      rw [ji_l b1, ji_l b3, lN_mul, lN_add, lN_add]
      obtain ⟨t, ht⟩ : ∃ t, t = c + (F * B k + lf i (fr + k)) := ⟨_, rfl⟩
      rw [← ht, jl_and (by omega), jl_ushr (by omega), jl_i, nI_1]
      simp only [n_set hL hi (show fr + k < L.2.2 i by omega), Option.bind_some]
      obtain ⟨g, o, e1, e0, e2, e3, e4⟩ := ih (k + 1) (t / 2147483648) (va_up lf i (va_up (lf i) (fr + k) (t % 2147483648))) (by omega) (by omega) (by omega) (by rw [va_up_self]; exact up_lt bl (by omega)) (fun q => by rw [va_up_ne _ _ hib]; exact eB q)
      rw [up_up] at e1
      refine ⟨g, o, e1, e0, e2, fun j hj => ?_, ?_⟩
      · rw [e3 j (by omega), va_up_self, va_up_ne _ _ (by omega)]
      · have e5 := e3 (fr + k) (by omega)
        rw [va_up_self, va_up_self] at e5
        rw [va_up_self, show fr + (k + 1) = fr + k + 1 from rfl, wv_congr (g := fun j => va_up (lf i) (fr + k) (t % 2147483648) (fr + k + 1 + j)) (h := fun j => lf i (fr + k + 1 + j)) (fun j _ => va_up_ne _ _ (by omega))] at e4
        rw [show cnt - k = (cnt - (k + 1)) + 1 by omega, wv_step, wv_step, wv_step, e5, Nat.pow_succ, Nat.mul_comm (2147483648 ^ _) 2147483648, Nat.mul_assoc, Nat.mul_add, Nat.mul_left_comm F 2147483648]
        generalize 2147483648 ^ (cnt - (k + 1)) * o = P at *
        generalize F * wv 2147483648 (fun j => B (k + 1 + j)) (cnt - (k + 1)) = P2 at *
        generalize F * B k = P3 at *
        omega
theorem p_zeroL (hL : g_ok L) {i a b : Nat} (hi : i < 45) (hb : b < 45) (hib : b ≠ i) (sb : s b ≤ L.2.2 i) :
    ∀ (n k : Nat) (lf : Nat → Nat → Nat), s b - k < n → k ≤ s b → LX3_becomeProduct_2 n (mkN L σ0 s lf) (L.1 i) (L.1 a) (L.1 b) (nI k) = LX3_becomeProduct_25 g_fuel (mkN L σ0 s (va_up lf i (fun j => if k ≤ j ∧ j < s b then 0 else lf i j))) (L.1 i) (L.1 a) (L.1 b) 0 := by
  have hr := (hL.2.2.2 i hi).2
  intro n
  induction n with
  | zero => intro k lf h; omega
  | succ n ih =>
    intro k lf hn hk
    rw [LX3_becomeProduct_2]
    unfold g_let
    simp only [n_size hL hb, Option.bind_some]
    by_cases hkl : k = s b
    · rw [if_pos (nI_le (by omega) (by omega))]
      have e : (fun j => if k ≤ j ∧ j < s b then 0 else lf i j) = lf i := funext fun j => if_neg (by omega)
      rw [e, up_same]
    · rw [if_neg (nI_ge (by omega) (by omega))]
      have eg := n_set (σ0 := σ0) (s := s) (lf := lf) hL hi (show k < L.2.2 i by omega) 0
      rw [nI_0] at eg
      simp only [n_row hL hi, Option.bind_some, eg]
      rw [nI_1, ih (k + 1) _ (by omega) (by omega), up_up, va_up_self]
      congr 3
      funext j
      by_cases h1 : k = j
      · subst h1
        rw [if_neg (by omega), if_pos (by omega), va_up_self]
      · by_cases h2 : k ≤ j ∧ j < s b
        · rw [if_pos h2, if_pos (by omega)]
        · rw [if_neg h2, if_neg (by omega), va_up_ne _ _ (fun e => h1 e.symm)]
theorem p_prodL (hL : g_ok L) {i a b : Nat} (hi : i < 45) (ha : a < 45) (hb : b < 45) (hia : a ≠ i) (hib : b ≠ i) (sa : s a ≤ L.2.2 a) (sb : s b ≤ L.2.2 b) (hri : s a + s b ≤ L.2.2 i) {A B : Nat → Nat} (bA : ∀ k, A k < 2147483648) (bB : ∀ k, B k < 2147483648) :
    ∀ (n t : Nat) (lf : Nat → Nat → Nat), s a - t < n → t ≤ s a → (∀ j, lf i j < 2147483648) → (∀ k, lf a k = A k) → (∀ k, lf b k = B k) → ∃ g, LX3_becomeProduct_25 n (mkN L σ0 s lf) (L.1 i) (L.1 a) (L.1 b) (nI t) = some (mkN L σ0 (va_up s i (wt g (s a + s b))) (va_up lf i g)) ∧ (∀ j, g j < 2147483648) ∧ wv 2147483648 g (s a + s b) = wv 2147483648 (lf i) (t + s b) + 2147483648 ^ t * (wv 2147483648 (fun j => A (t + j)) (s a - t) * wv 2147483648 B (s b)) := by
  have hr := (hL.2.2.2 i hi).2
  intro n
  induction n with
  | zero => intro t lf h; omega
  | succ n ih =>
    intro t lf hn ht bl eA eB
    rw [LX3_becomeProduct_25]
    unfold g_let
    simp only [n_size hL ha, n_size hL hb, Option.bind_some]
    by_cases hts : t = s a
    · refine ⟨lf i, ?_, bl, ?_⟩
      · rw [if_pos (nI_le (by omega) (by omega)), nI_add]
        simp only [n_o hL hi, Option.bind_some]
        rw [p_trim hL hi (by omega) (fun j _ => bl j), up_same]
        rfl
      · rw [hts, Nat.sub_self, wv_0]
        simp
    · have b1 := bA t
      rw [if_neg (nI_ge (by omega) (by omega))]
      simp only [n_row hL hi, n_row hL ha, n_o hL hi, Option.bind_some, n_get hL ha (show t < L.2.2 a by omega), eA]
      rw [ji_l b1]
      unfold fX3_addMultiple
      simp only [n_size hL hb, Option.bind_some]
      obtain ⟨g1, o, e1, e0, e2, e3, e4⟩ := p_addL (σ0 := σ0) (s := s) (cnt := s b) (fr := t) hL hi hb hib sb (by omega) b1 bB g_fuel 0 0 lf (fuel_ge (by omega)) (by omega) (by omega) bl eB
      rw [show (0 : Int64) = lN 0 from rfl, show (0 : Int32) = nI 0 from rfl, e1]
      simp only [Option.bind_some]
      rw [nI_add, nI_1]
      simp only [n_set hL hi (show t + s b < L.2.2 i by omega), Option.bind_some, va_up_self, up_up]
      obtain ⟨g, f1, f2, f3⟩ := ih (t + 1) (va_up lf i (va_up g1 (t + s b) o)) (by omega) (by omega) (by rw [va_up_self]; exact up_lt e2 e0) (fun q => by rw [va_up_ne _ _ hia]; exact eA q) (fun q => by rw [va_up_ne _ _ hib]; exact eB q)
      rw [up_up] at f1
      refine ⟨g, f1, f2, ?_⟩
      rw [f3, va_up_self, show t + 1 + s b = (t + s b) + 1 by omega, wv_s, va_up_self, show s a - t = (s a - (t + 1)) + 1 by omega, wv_step, Nat.pow_succ, Nat.pow_add]
      rw [wv_congr (g := va_up g1 (t + s b) o) (h := g1) (fun j hj => va_up_ne _ _ (by omega))]
      simp only [Nat.add_zero, Nat.sub_zero, Nat.zero_add] at e4
      rw [wv_add 2147483648 g1 t (s b), wv_add 2147483648 (lf i) t (s b), wv_congr (g := g1) (h := lf i) (n := t) (fun j hj => e3 j (by omega))]
      have e6 : 2147483648 ^ t * wv 2147483648 (fun i => g1 (t + i)) (s b) + o * (2147483648 ^ t * 2147483648 ^ s b) = 2147483648 ^ t * (A t * wv 2147483648 B (s b)) + 2147483648 ^ t * wv 2147483648 (fun j => lf i (t + j)) (s b) := by
        rw [← Nat.mul_add, ← show wv 2147483648 (fun j => B j) (s b) = wv 2147483648 B (s b) from rfl, ← e4, Nat.mul_add, Nat.mul_comm o, Nat.mul_assoc]
      have e7 : 2147483648 ^ t * ((A t + 2147483648 * wv 2147483648 (fun j => A (t + 1 + j)) (s a - (t + 1))) * wv 2147483648 B (s b)) = 2147483648 ^ t * (A t * wv 2147483648 B (s b)) + 2147483648 ^ t * 2147483648 * (wv 2147483648 (fun j => A (t + 1 + j)) (s a - (t + 1)) * wv 2147483648 B (s b)) := by
        rw [Nat.add_mul, Nat.mul_add, Nat.mul_assoc 2147483648, Nat.mul_assoc (2147483648 ^ t)]
      rw [e7]
      omega
theorem q_prod (hL : g_ok L) {i a b : Nat} (hi : i < 45) (ha : a < 45) (hb : b < 45) (hia : a ≠ i) (hib : b ≠ i) (h : GV L s lf v) (h1 : s a + s b ≤ L.2.2 i) : ∃ s' lf', fX3_becomeProduct (mkN L σ0 s lf) (L.1 i) (L.1 a) (L.1 b) = some (mkN L σ0 s' lf') ∧ GV L s' lf' (va_up v i (v a * v b)) := by
  have hr := (hL.2.2.2 i hi).2
  obtain ⟨a1, a2, a3, a4⟩ := h a ha
  obtain ⟨b1, b2, b3, b4⟩ := h b hb
  unfold fX3_becomeProduct
  rw [← nI_0, p_zeroL hL hi hb hib (by omega) g_fuel 0 lf (fuel_ge (by omega)) (by omega), ← nI_0]
  obtain ⟨g, e1, e2, e3⟩ := p_prodL (σ0 := σ0) hL hi ha hb hia hib a1 b1 h1 a2 b2 g_fuel 0 (va_up lf i (fun j => if 0 ≤ j ∧ j < s b then 0 else lf i j)) (fuel_ge (by omega)) (by omega) (by
    rw [va_up_self]
    intro j
    by_cases hj : 0 ≤ j ∧ j < s b
    · simp only [if_pos hj]; omega
    · simp only [if_neg hj]; exact (h i hi).2.1 j) (fun k => by rw [va_up_ne _ _ hia]) (fun k => by rw [va_up_ne _ _ hib])
  rw [up_up] at e1
  refine ⟨_, _, e1, ?_⟩
  have q := h.up (gw_trim (i := i) (c := s a + s b) h1 e2)
  rw [va_up_self, Nat.zero_add, wv_all0 (fun j hj => if_pos ⟨Nat.zero_le _, hj⟩)] at e3
  simp only [Nat.zero_add, Nat.sub_zero, Nat.pow_zero, Nat.one_mul] at e3
  rw [e3, b4, show wv 2147483648 (fun j => lf a j) (s a) = wv 2147483648 (lf a) (s a) from rfl, a4] at q
  exact q
theorem p_mulL (hL : g_ok L) {i F : Nat} (hi : i < 45) (hs : s i + 1 ≤ L.2.2 i) (hF : F < 2147483648) :
    ∀ (n k c : Nat) (lf : Nat → Nat → Nat), s i - k < n → k ≤ s i → c < 2147483648 → (∀ j, lf i j < 2147483648) → ∃ g, LX3_multiplyAndAdd_6 n (mkN L σ0 s lf) (L.1 i) (nI F) (lN c) (nI k) = some (mkN L σ0 (va_up s i (wt g (s i + 1))) (va_up lf i g)) ∧ (∀ j, g j < 2147483648) ∧ (∀ j, j < k → g j = lf i j) ∧ wv 2147483648 (fun j => g (k + j)) (s i + 1 - k) = c + F * wv 2147483648 (fun j => lf i (k + j)) (s i - k) := by
  have hr := (hL.2.2.2 i hi).2
  intro n
  induction n with
  | zero => intro k c lf h; omega
  | succ n ih =>
    intro k c lf hn hk hc bl
    unfold LX3_multiplyAndAdd_6 g_let
    simp only [n_size hL hi, n_row hL hi, Option.bind_some]
    by_cases hkl : k = s i
    · have hbd : ∀ j, va_up (lf i) (s i) c j < 2147483648 := up_lt bl hc
      refine ⟨va_up (lf i) (s i) c, ?_, hbd, fun j hj => va_up_ne _ _ (by omega), ?_⟩
      · rw [if_pos (nI_le (by omega) (by omega)), jl_i]
        simp only [n_set hL hi (show s i < L.2.2 i by omega), n_size hL hi, n_o hL hi, Option.bind_some]
        rw [nI_1, p_trim hL hi (by omega) (fun j _ => by rw [va_up_self]; exact hbd j), va_up_self]
        rfl
      · rw [hkl, show s i + 1 - s i = 0 + 1 by omega, wv_step, Nat.sub_self, wv_0, wv_0, va_up_self]
        simp
    · have b1 := bl k
      have hm := mul31 hF b1
      rw [if_neg (nI_ge (by omega) (by omega))]
      simp only [n_get hL hi (show k < L.2.2 i by omega), Option.bind_some]
      rw [ji_l hF, ji_l b1, lN_mul, lN_add]
      obtain ⟨t, ht⟩ : ∃ t, t = c + F * lf i k := ⟨_, rfl⟩
      rw [← ht, jl_and (by omega), jl_ushr (by omega), jl_i, nI_1]
      simp only [n_set hL hi (show k < L.2.2 i by omega), Option.bind_some]
      obtain ⟨g, e1, e2, e3, e4⟩ := ih (k + 1) (t / 2147483648) (va_up lf i (va_up (lf i) k (t % 2147483648))) (by omega) (by omega) (by omega) (by rw [va_up_self]; exact up_lt bl (by omega))
      rw [up_up] at e1
      refine ⟨g, e1, e2, fun j hj => ?_, ?_⟩
      · rw [e3 j (by omega), va_up_self, va_up_ne _ _ (by omega)]
      · have e5 := e3 k (by omega)
        rw [va_up_self, va_up_self] at e5
        rw [va_up_self, wv_congr (g := fun j => va_up (lf i) k (t % 2147483648) (k + 1 + j)) (h := fun j => lf i (k + 1 + j)) (fun j _ => va_up_ne _ _ (by omega))] at e4
        rw [show s i + 1 - k = (s i + 1 - (k + 1)) + 1 by omega, show s i - k = (s i - (k + 1)) + 1 by omega, wv_step, wv_step, e5, e4, Nat.mul_add F, Nat.mul_left_comm F 2147483648]
        generalize F * wv 2147483648 (fun j => lf i (k + 1 + j)) (s i - (k + 1)) = P2 at *
        generalize F * lf i k = P3 at *
        omega
theorem q_mul (hL : g_ok L) {i F c : Nat} (hi : i < 45) (h : GV L s lf v) (hs : s i + 1 ≤ L.2.2 i) (hF : F < 2147483648) (hc : c < 2147483648) : ∃ s' lf', fX3_multiplyAndAdd (mkN L σ0 s lf) (L.1 i) (nI F) (nI c) = some (mkN L σ0 s' lf') ∧ GV L s' lf' (va_up v i (v i * F + c)) := by
  have hr := (hL.2.2.2 i hi).2
  obtain ⟨a1, a2, a3, a4⟩ := h i hi
  unfold fX3_multiplyAndAdd g_let
  rw [ji_l hc, ← nI_0]
  obtain ⟨g, e1, e2, e3, e4⟩ := p_mulL (σ0 := σ0) hL hi hs hF g_fuel 0 c lf (fuel_ge (by omega)) (by omega) hc a2
  refine ⟨_, _, e1, ?_⟩
  have q := h.up (gw_trim (i := i) (c := s i + 1) hs e2)
  simp only [Nat.zero_add, Nat.sub_zero] at e4
  rw [show wv 2147483648 (fun j => g j) (s i + 1) = wv 2147483648 g (s i + 1) from rfl, show wv 2147483648 (fun j => lf i j) (s i) = wv 2147483648 (lf i) (s i) from rfl, a4] at e4
  rw [e4, Nat.mul_comm F, Nat.add_comm c] at q
  exact q
theorem p_divL (hL : g_ok L) {i d : Nat} (hi : i < 45) (hs : s i ≤ L.2.2 i) (hd : 0 < d) (hd2 : d < 2147483648) :
    ∀ (n c r : Nat) (lf : Nat → Nat → Nat), c < n → c ≤ s i → r < d → (∀ j, lf i j < 2147483648) → ∃ g r', LX3_divideBy_16 n (mkN L σ0 s lf) (L.1 i) (nI d) (lN r) (nI c - 1) = some (nI r', mkN L σ0 (va_up s i (wt g (s i))) (va_up lf i g)) ∧ r' < d ∧ (∀ j, g j < 2147483648) ∧ (∀ j, c ≤ j → g j = lf i j) ∧ wv 2147483648 g c * d + r' = r * 2147483648 ^ c + wv 2147483648 (lf i) c := by
  have hr := (hL.2.2.2 i hi).2
  intro n
  induction n with
  | zero => intro c r lf h; omega
  | succ n ih =>
    intro c r lf hn hc hrd bl
    unfold LX3_divideBy_16 g_let
    cases c with
    | zero =>
      refine ⟨lf i, r, ?_, hrd, bl, fun j _ => rfl, by simp [wv_0]⟩
      rw [if_pos (by decide)]
      simp only [n_size hL hi, n_o hL hi, Option.bind_some]
      rw [p_trim hL hi hs (fun j _ => bl j), jl_i, up_same]
      rfl
    | succ c =>
      have b1 := bl c
      have hm := mul31 (show r < 2147483648 by omega) hd2
      rw [nI_pred, if_neg (nI_pos (by omega))]
      simp only [n_row hL hi, n_get hL hi (show c < L.2.2 i by omega), Option.bind_some]
      have es : g_lshl (lN r) 31 = lN (r * 2 ^ 31) := jl_shl r (k := 31) (by decide)
      have hrm : r * 2147483648 + 2147483648 ≤ d * 2147483648 := by
        have : (r + 1) * 2147483648 ≤ d * 2147483648 := Nat.mul_le_mul_right _ hrd
        omega
      rw [ji_l b1, es, jl_or (k := 31) (by omega) (by omega), ji_l hd2]
      obtain ⟨t, ht⟩ : ∃ t, t = r * 2 ^ 31 + lf i c := ⟨_, rfl⟩
      have ht2 : t < d * 2147483648 := by omega
      have hq : t / d < 2147483648 := Nat.div_lt_of_lt_mul ht2
      have hq2 : t / d * d ≤ t := Nat.div_mul_le_self t d
      rw [← ht, g_if_pos (by rw [show (0 : Int64) = lN 0 from rfl, pk_lEQ (by omega) (by omega)]; omega), pk_lDiv (by omega) hd (by omega), lN_mul, lN_sub hq2, jl_i]
      simp only [n_set hL hi (show c < L.2.2 i by omega), Option.bind_some]
      have hmod : t - t / d * d = t % d := by rw [Nat.mod_eq_sub_div_mul]
      rw [ja_m1, hmod]
      obtain ⟨g, r', e1, e0, e2, e3, e4⟩ := ih c (t % d) (va_up lf i (va_up (lf i) c (t / d))) (by omega) (by omega) (Nat.mod_lt _ hd) (by rw [va_up_self]; exact up_lt bl hq)
      rw [up_up] at e1
      refine ⟨g, r', e1, e0, e2, fun j hj => ?_, ?_⟩
      · rw [e3 j (by omega), va_up_self, va_up_ne _ _ (by omega)]
      · have e5 := e3 c (by omega)
        rw [va_up_self, va_up_self] at e5
        rw [va_up_self, wv_congr (g := va_up (lf i) c (t / d)) (h := lf i) (fun j hj => va_up_ne _ _ (by omega))] at e4
        have e8 : t = t / d * d + t % d := by rw [Nat.mul_comm]; exact (Nat.div_add_mod t d).symm
        rw [wv_s, wv_s, e5, Nat.add_mul, Nat.pow_succ]
        have e9 : r * (2147483648 ^ c * 2147483648) + lf i c * 2147483648 ^ c = t / d * 2147483648 ^ c * d + t % d * 2147483648 ^ c := by
          have : t * 2147483648 ^ c = r * (2147483648 ^ c * 2147483648) + lf i c * 2147483648 ^ c := by
            rw [ht, Nat.add_mul, show (2 : Nat) ^ 31 = 2147483648 from rfl, Nat.mul_assoc, Nat.mul_comm 2147483648]
          rw [← this]
          conv => lhs; rw [e8]
          rw [Nat.add_mul, Nat.mul_assoc, Nat.mul_comm d, ← Nat.mul_assoc]
        omega
theorem q_div (hL : g_ok L) {i d : Nat} (hi : i < 45) (h : GV L s lf v) (hd : 0 < d) (hd2 : d < 2147483648) : ∃ s' lf', fX3_divideBy (mkN L σ0 s lf) (L.1 i) (nI d) = some (nI (v i % d), mkN L σ0 s' lf') ∧ GV L s' lf' (va_up v i (v i / d)) := by
  have hr := (hL.2.2.2 i hi).2
  obtain ⟨a1, a2, a3, a4⟩ := h i hi
  unfold fX3_divideBy g_let
  rw [if_pos (by rw [← nI_0]; exact nI_lt hd (by omega))]
  simp only [n_size hL hi, Option.bind_some]
  obtain ⟨g, r', e1, e0, e2, e3, e4⟩ := p_divL (σ0 := σ0) hL hi a1 hd hd2 g_fuel (s i) 0 lf (fuel_ge (by omega)) (Nat.le_refl _) hd a2
  rw [show (0 : Int64) = lN 0 from rfl, e1]
  rw [Nat.zero_mul, Nat.zero_add, a4] at e4
  have q := h.up (gw_trim (i := i) (c := s i) a1 e2)
  have h1 : v i / d = wv 2147483648 g (s i) := by
    rw [← e4, Nat.add_comm, Nat.add_mul_div_right _ _ hd, Nat.div_eq_of_lt e0, Nat.zero_add]
  have h2 : v i % d = r' := by
    rw [← e4, Nat.add_comm, Nat.add_mul_mod_self_right, Nat.mod_eq_of_lt e0]
  rw [h2, h1]
  exact ⟨_, _, rfl, q⟩
end NP
