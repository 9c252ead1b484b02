/-! the reference: the division's parts -/
/-- a negative long over 65536, towards 0 -/
theorem lZ_dneg {n : Nat} (hn : n < 9223372036854775808) : lZ (-(n : Int)) / lZ 65536 = lZ (-((n / 65536 : Nat) : Int)) := by
  apply Int64.toInt_inj.mp
  rw [Int64.toInt_div_of_ne_right _ _ (by decide), lZ_toInt (by omega) (by omega), lZ_toInt (by omega) (by omega), lZ_toInt (by omega) (by omega), Int.neg_tdiv]
  rfl
/-- the rest of a long, made one not below 0 -/
theorem lZ_rest {z : Int} (h1 : -9223372036854775808 < z) (h2 : z < 9223372036854775808) : ∃ r : Int, g_lrem (lZ z) 65536 = lZ r ∧ -65536 < r ∧ r < 65536 ∧ (0 ≤ r → r = z % 65536) ∧ (r < 0 → r + 65536 = z % 65536) := by
  unfold g_lrem
  rw [show (65536 : Int64) = lZ 65536 from rfl]
  by_cases hz : 0 ≤ z
  · rw [lZ_div hz h2 (by omega) (by omega), lZ_mul, lZ_sub]
    exact ⟨_, rfl, by omega, by omega, fun _ => by omega, fun _ => by omega⟩
  · obtain ⟨n, rfl⟩ : ∃ n : Nat, z = -(n : Int) := ⟨(-z).toNat, by omega⟩
    rw [lZ_dneg (by omega), lZ_mul, lZ_sub]
    exact ⟨_, rfl, by omega, by omega, fun _ => by omega, fun _ => by omega⟩
theorem wv_downB {a e : Nat → Nat} {m q B : Nat} (hB : B = 2 ^ m * q) (n : Nat) (he : ∀ k, k < n → e k = a k / 2 ^ m + a (k + 1) % 2 ^ m * q) : 2 ^ m * wv B e n + a 0 % 2 ^ m = wv B a n + a n % 2 ^ m * B ^ n := by
  induction n with
  | zero => simp [wv_0]
  | succ n ih =>
    have h1 := ih (fun k hk => he k (by omega))
    rw [wv_s, wv_s, he n (by omega), Nat.mul_add]
    have hx : ∀ x y P : Nat, 2 ^ m * ((x + y * q) * P) = 2 ^ m * x * P + y * (P * B) := fun x y P => by
      rw [hB, Nat.add_mul, Nat.mul_add]
      ac_rfl
    have h2 : 2 ^ m * ((a n / 2 ^ m + a (n + 1) % 2 ^ m * q) * B ^ n) = (2 ^ m * (a n / 2 ^ m)) * B ^ n + a (n + 1) % 2 ^ m * B ^ (n + 1) := by
      rw [Nat.pow_succ]
      exact hx _ _ _
    have h3 := Nat.div_add_mod (a n) (2 ^ m)
    have h4 : a n * B ^ n = (2 ^ m * (a n / 2 ^ m)) * B ^ n + a n % 2 ^ m * B ^ n := by
      rw [← Nat.add_mul, h3]
    rw [h2]
    omega
theorem kd_b1 {dV G R V P o : Nat} (e4 : G + dV = R + P * o) (hG : G < P) (hVP : V ≤ P) (hRP : R < P) (q1 : dV ≤ R) (q2 : R - dV < V) : o = 0 ∧ G < V ∧ dV + G = R := by
  have ho : o = 0 := by
    rcases Nat.eq_zero_or_pos o with w | w
    · exact w
    · have : P * 1 ≤ P * o := Nat.mul_le_mul_left _ w
      omega
  subst ho
  omega
theorem kd_b2 {dV dV1 G GG R V P o oo : Nat} (e4 : G + dV = R + P * o) (hG : G < P) (hVP : V < P) (hdV : dV = dV1 + V) (q1 : R < dV) (q2 : dV1 ≤ R) (q3 : R - dV1 < V) (f4 : GG + P * oo = G + V) (hGG : GG < P) : 0 < o ∧ GG < V ∧ dV1 + GG = R := by
  have ho : o = 1 := by
    rcases Nat.lt_trichotomy o 1 with w | w | w
    · have hz : o = 0 := by omega
      rw [hz, Nat.mul_zero] at e4
      omega
    · exact w
    · have : P * 2 ≤ P * o := Nat.mul_le_mul_left _ w
      omega
  subst ho
  have hoo : oo = 1 := by
    rcases Nat.lt_trichotomy oo 1 with w | w | w
    · have hz : oo = 0 := by omega
      rw [hz, Nat.mul_zero] at f4
      omega
    · exact w
    · have : P * 2 ≤ P * oo := Nat.mul_le_mul_left _ w
      omega
  subst hoo
  omega
section MG
variable {Q : Nat → Nat} {σ0 : g_S} {z : g_Z} {s : Nat → Nat} {lf : Nat → Nat → Nat} {v : Nat → Nat}
theorem u_liftL (hQ : kM Q) {i j m N : Nat} (hi : i < 44) (hj : j < 44) (hij : j ≠ i) (hm : m ≤ 15) (hs : s j ≤ 264) (hN : N ≤ 264) {A : Nat → Nat} (bA : ∀ k, A k < 65536) :
    ∀ (n k c : Nat) (lf : Nat → Nat → Nat), N - k < n → k ≤ N → c < 2 ^ m → (∀ q, lf i q < 65536) → (∀ q, la s lf j q = A q) → ∃ g o, LX8_lifted_16 n (md Q σ0 z s lf) (Q 0) (nI j) (nI m) (nI i) (nI N) (nI c) (nI k) = some (md Q σ0 z (va_up s i N) (va_up lf i g)) ∧ (∀ q, g q < 65536) ∧ (∀ q, q < k → g q = lf i q) ∧ wv 65536 (fun q => g (k + q)) (N - k) + 65536 ^ (N - k) * o = c + 2 ^ m * wv 65536 (fun q => A (k + q)) (N - k) := by
  have hp15 : 2 ^ m ≤ 2 ^ 15 := Nat.pow_le_pow_right (by decide) hm
  have e15 : (2 : Nat) ^ 15 = 32768 := rfl
  intro n
  induction n with
  | zero => intro k c lf h; omega
  | succ n ih =>
    intro k c lf hn hk hc bl eA
    unfold LX8_lifted_16
    simp only [g_let]
    by_cases hkl : k = N
    · subst hkl
      refine ⟨lf i, c, ?_, bl, fun _ _ => rfl, ?_⟩
      · rw [if_pos (nI_le (Nat.le_refl k) (by omega))]
        simp only [rM hQ, Option.bind_some, m_setl hQ hi]
        rw [up_same]
      · rw [Nat.sub_self]; simp [wv_0]
    · have b1 := bA k
      have hm1 : (A k + 1) * 2 ^ m ≤ 65536 * 2 ^ m := Nat.mul_le_mul_right _ b1
      rw [Nat.add_mul, Nat.one_mul] at hm1
      rw [if_neg (nI_ge (by omega) (by omega))]
      simp only [rM hQ, u_at hQ hj hs (show k < 2147483648 by omega), eA, Option.bind_some]
      rw [ja_shlK _ (by omega), nI_add]
      obtain ⟨t, ht⟩ : ∃ t, t = A k * 2 ^ m + c := ⟨_, rfl⟩
      have ht2 : t / 65536 < 2 ^ m := Nat.div_lt_of_lt_mul (by omega)
      rw [← ht, ji_and (by omega), ji_div (by omega), nI_1]
      simp only [u_puts hQ hi (show k < 264 by omega), Option.bind_some]
      obtain ⟨g, o, e1, e2, e3, e4⟩ := ih (k + 1) (t / 65536) (va_up lf i (va_up (lf i) k (t % 65536))) (by omega) (by omega) ht2 (by rw [va_up_self]; exact mup_lt bl (by omega)) (fun q => by rw [la_mu hij]; exact eA q)
      rw [up_up] at e1
      refine ⟨g, o, e1, e2, fun q hq => ?_, ?_⟩
      · rw [e3 q (by omega), va_up_self, va_up_ne _ _ (by omega)]
      · have e5 := e3 k (by omega)
        rw [va_up_self, va_up_self] at e5
        rw [show N - k = (N - (k + 1)) + 1 by omega, wv_step, wv_step, e5, Nat.pow_succ, Nat.mul_comm (65536 ^ _) 65536, Nat.mul_assoc, Nat.mul_add (2 ^ m), Nat.mul_left_comm (2 ^ m) 65536, Nat.mul_comm (2 ^ m) (A k)]
        generalize 2 ^ m * wv 65536 (fun q => A (k + 1 + q)) (N - (k + 1)) = P2 at *
        generalize 65536 ^ (N - (k + 1)) * o = P at *
        omega
theorem u_lift (hQ : kM Q) {i j m x : Nat} (hi : i < 44) (hj : j < 44) (hij : j ≠ i) (hm : m ≤ 15) (hs : s j + 1 ≤ 264) (bj : ∀ k, lf j k < 65536) (bi : ∀ k, lf i k < 65536) (hx : wv 65536 (lf j) (s j) = x) : ∃ g, fX8_lifted (md Q σ0 z s lf) (Q 0) (nI j) (nI m) (nI i) = some (md Q σ0 z (va_up s i (s j + 1)) (va_up lf i g)) ∧ (∀ q, g q < 65536) ∧ wv 65536 g (s j + 1) = 2 ^ m * x := by
  have hp15 : 2 ^ m ≤ 2 ^ 15 := Nat.pow_le_pow_right (by decide) hm
  have e15 : (2 : Nat) ^ 15 = 32768 := rfl
  have hp0 : 0 < 2 ^ m := Nat.pow_pos (by decide)
  obtain ⟨g, o, e1, e2, e3, e4⟩ := u_liftL (σ0 := σ0) (z := z) (s := s) (N := s j + 1) (m := m) hQ hi hj hij hm (by omega) hs (mla_lt (s := s) bj) g_fuel 0 0 lf (fuel_ge (by omega)) (by omega) hp0 bi (fun _ => rfl)
  simp only [Nat.zero_add] at e4
  rw [Nat.sub_zero, mla_wv (by omega), hx] at e4
  have hxl : x < 65536 ^ s j := by rw [← hx]; exact wv_lt (fun k _ => bj k)
  have hlt : 2 ^ m * x < 65536 ^ (s j + 1) := by
    have h1 : 2 ^ m * x ≤ 65536 * x := Nat.mul_le_mul_right _ (by omega)
    rw [Nat.pow_succ]
    omega
  have ho : o = 0 := by
    rcases Nat.eq_zero_or_pos o with q | q
    · exact q
    · have : 65536 ^ (s j + 1) * 1 ≤ 65536 ^ (s j + 1) * o := Nat.mul_le_mul_left _ q
      omega
  rw [ho, Nat.mul_zero, Nat.add_zero] at e4
  refine ⟨g, ?_, e2, e4⟩
  unfold fX8_lifted
  simp only [rM hQ, m_len hQ hj, Option.bind_some, g_let]
  rw [nI_1, show (0 : Int32) = nI 0 from rfl]
  exact e1
theorem ix40 (t k : Nat) : 10560 + nI t + nI k = nI (264 * 40 + (t + k)) := by
  rw [show (10560 : Int32) = nI 10560 from rfl, nI_add, nI_add]; congr 1; omega
theorem ix41 (k : Nat) : 10824 + nI k = nI (264 * 41 + k) := by
  rw [show (10824 : Int32) = nI 10824 from rfl, nI_add]
def TKR (Q : Nat → Nat) (σ0 : g_S) (z : g_Z) (s : Nat → Nat) (t d n : Nat) (A : Nat → Nat) (k c : Nat) (lf : Nat → Nat → Nat) (X : Option (Int32 × g_S)) : Prop := ∃ g o, X = some (if 0 < o then 1 else 0, md Q σ0 z s (va_up lf 40 g)) ∧ (∀ j, g j < 65536) ∧ (∀ j, j < t + k ∨ t + n < j → g j = lf 40 j) ∧ wv 65536 (fun j => g (t + k + j)) (n + 1 - k) + c + d * wv 65536 (fun j => A (k + j)) (n + 1 - k) = wv 65536 (fun j => lf 40 (t + k + j)) (n + 1 - k) + 65536 ^ (n + 1 - k) * o
theorem tk_step {t d n k c D C : Nat} {A : Nat → Nat} (X : Option (Int32 × g_S)) (hk : k ≤ n) (hDC : lf 40 (t + k) + 65536 * C = D + c + d * A k) (h : TKR Q σ0 z s t d n A (k + 1) C (va_up lf 40 (va_up (lf 40) (t + k) D)) X) : TKR Q σ0 z s t d n A k c lf X := by
  obtain ⟨g, o, e1, e2, e3, e4⟩ := h
  rw [up_up] at e1
  refine ⟨g, o, e1, e2, fun j hj => ?_, ?_⟩
  · rw [e3 j (by omega), va_up_self, va_up_ne _ _ (by omega)]
  · have e5 := e3 (t + k) (by omega)
    rw [va_up_self, va_up_self] at e5
    rw [va_up_self, show t + (k + 1) = t + k + 1 from rfl, wv_congr (g := fun j => va_up (lf 40) (t + k) D (t + k + 1 + j)) (h := fun j => lf 40 (t + k + 1 + j)) (fun j _ => va_up_ne _ _ (by omega))] at e4
    rw [show n + 1 - k = (n + 1 - (k + 1)) + 1 by omega, wv_step, wv_step, wv_step, e5, Nat.pow_succ, Nat.mul_comm (65536 ^ _) 65536, Nat.mul_assoc, Nat.mul_add d, Nat.mul_left_comm d 65536]
    generalize 65536 ^ (n + 1 - (k + 1)) * o = P at *
    generalize d * wv 65536 (fun j => A (k + 1 + j)) (n + 1 - (k + 1)) = P2 at *
    generalize d * A k = P3 at *
    omega
theorem tk_num {u c P3 : Nat} (hu : u < 65536) (hc : c ≤ 65536) (hP : P3 ≤ 4294836225) : ∃ (r : Int) (D C : Nat), g_lrem (lZ ((u : Int) - c - P3)) 65536 = lZ r ∧ D < 65536 ∧ C ≤ 65536 ∧ u + 65536 * C = D + c + P3 ∧ ((0 ≤ r ∧ r = D) ∨ (r < 0 ∧ r + 65536 = D)) ∧ -65536 < r ∧ r < 65536 ∧ ((D : Int) - ((u : Int) - c - P3)) / 65536 = C ∧ 0 ≤ (D : Int) - ((u : Int) - c - P3) ∧ (D : Int) - ((u : Int) - c - P3) < 9223372036854775808 := by
  obtain ⟨T, hT⟩ : ∃ T : Int, T = (u : Int) - c - P3 := ⟨_, rfl⟩
  rw [← hT]
  obtain ⟨r, r1, r2, r3, r4, r5⟩ := lZ_rest (z := T) (by omega) (by omega)
  refine ⟨r, (T % 65536).toNat, (-(T / 65536)).toNat, r1, by omega, by omega, by omega, ?_, r2, r3, by omega, by omega, by omega⟩
  by_cases hr : 0 ≤ r
  · exact Or.inl ⟨hr, by have := r4 hr; omega⟩
  · exact Or.inr ⟨by omega, by have := r5 (by omega); omega⟩
theorem tk_puts (hQ : kM Q) {t d n k c : Nat} {f : Nat} {A : Nat → Nat} (hn : t + n < 264) (hd : d < 65536) (hk : k ≤ n) (hc : c ≤ 65536) (bl : ∀ j, lf 40 j < 65536) (bA : ∀ k, A k < 65536)
    (ih : ∀ (C D : Nat), C ≤ 65536 → D < 65536 → TKR Q σ0 z s t d n A (k + 1) C (va_up lf 40 (va_up (lf 40) (t + k) D)) (LX8_takes_6 f (md Q σ0 z s (va_up lf 40 (va_up (lf 40) (t + k) D))) (Q 0) (nI t) (nI n) (lN d) (lN C) (nI (k + 1)))) :
    TKR Q σ0 z s t d n A k c lf (BX8_takes_51 (LX8_takes_6 f) (md Q σ0 z s lf) (Q 0) (nI t) (nI n) (lN d) (nI k) ((nI (lf 40 (t + k))).toInt64 - lN c) (lN d) (nI (A k))) := by
  have h4 : (40 : Nat) < 44 := by decide
  have b1 := bA k
  have b3 := bl (t + k)
  have hm : d * A k ≤ 65535 * 65535 := Nat.mul_le_mul (by omega) (by omega)
  obtain ⟨r, D, C, r1, r2, r3, r4, r5, r6, r7, r8, r9, r10⟩ := tk_num (u := lf 40 (t + k)) (c := c) (P3 := d * A k) b3 hc hm
  have eT : (nI (lf 40 (t + k))).toInt64 - lN c - lN d * (nI (A k)).toInt64 = lZ ((lf 40 (t + k) : Int) - c - (d * A k : Nat)) := by
    rw [ji_l (by omega), ji_l (by omega), lN_mul, lZ_N (lf 40 (t + k)), lZ_N c, lZ_N (d * A k), lZ_sub, lZ_sub]
  have fin : ((g_o (md Q σ0 z s lf) 8 (Q 0)).bind fun _ => (fX8_puts (md Q σ0 z s lf) (Q 0) 40 (nI t + nI k) (lZ D).toInt32).bind fun r12 => LX8_takes_6 f r12 (Q 0) (nI t) (nI n) (lN d) ((lZ D - lZ ((lf 40 (t + k) : Int) - c - (d * A k : Nat))) / 65536) (nI k + 1)) = LX8_takes_6 f (md Q σ0 z s (va_up lf 40 (va_up (lf 40) (t + k) D))) (Q 0) (nI t) (nI n) (lN d) (lN C) (nI (k + 1)) := by
    rw [← lZ_N D, jl_i, lZ_N D, lZ_sub, show (65536 : Int64) = lZ 65536 from rfl, lZ_div r9 r10 (by omega) (by omega), r8, ← lZ_N C, nI_add, nI_1, show (40 : Int32) = nI 40 from rfl]
    simp only [rM hQ, u_puts hQ h4 (show t + k < 264 by omega), Option.bind_some]
  have key := tk_step (lf := lf) _ hk r4 (ih C D r3 r2)
  rw [← fin] at key
  unfold BX8_takes_51 BX8_takes_80
  simp only [g_let]
  rw [eT, r1, show (0 : Int64) = lZ 0 from rfl]
  rcases r5 with ⟨q1, q2⟩ | ⟨q1, q2⟩
  · rw [if_pos ((lZ_ge (by omega) (by omega) (by omega) (by omega)).mpr q1), lZ_add, show r + 0 = (D : Int) by omega]
    exact key
  · rw [if_neg (fun w => by have := (lZ_ge (by omega) (by omega) (by omega) (by omega)).mp w; omega), show (65536 : Int64) = lZ 65536 from rfl, lZ_add, q2]
    exact key
theorem tk_end {σ : g_S} {c : Nat} (hc : c ≤ 65536) : (if (lg_cmp (lN c) 0) ≤ 0 then (BX8_takes_125 σ 0) else (BX8_takes_125 σ 1)) = some (if 0 < c then 1 else 0, σ) := by
  unfold BX8_takes_125
  rw [show (0 : Int64) = lZ 0 from rfl, lZ_N c]
  by_cases hc0 : 0 < c
  · rw [if_neg (fun w => by have := (lZ_le (by omega) (by omega) (by omega) (by omega)).mp w; omega), if_pos hc0]
    exact g_if_pos (by simp)
  · rw [if_pos ((lZ_le (by omega) (by omega) (by omega) (by omega)).mpr (by omega)), if_neg hc0]
    exact g_if_pos (by simp)
theorem tk_zero {t d n c : Nat} {A : Nat → Nat} (bl : ∀ j, lf 40 j < 65536) : TKR Q σ0 z s t d n A (n + 1) c lf (some (if 0 < c then 1 else 0, md Q σ0 z s lf)) := by
  refine ⟨lf 40, c, by rw [up_same], bl, fun _ _ => rfl, ?_⟩
  rw [Nat.sub_self]
  simp [wv_0]
theorem u_takeL (hQ : kM Q) {t d n : Nat} (hn : t + n < 264) (hd : d < 65536) {A : Nat → Nat} (bA : ∀ k, A k < 65536) (hA0 : A n = 0) :
    ∀ (f k c : Nat) (lf : Nat → Nat → Nat), n + 1 - k < f → k ≤ n + 1 → c ≤ 65536 → (∀ j, lf 40 j < 65536) → (∀ j, j < n → lf 41 j = A j) → TKR Q σ0 z s t d n A k c lf (LX8_takes_6 f (md Q σ0 z s lf) (Q 0) (nI t) (nI n) (lN d) (lN c) (nI k)) := by
  have h4 : (40 : Nat) < 44 := by decide
  have h5 : (41 : Nat) < 44 := by decide
  intro f
  induction f with
  | zero => intro k c lf h; omega
  | succ f ih =>
    intro k c lf hf hk hc bl eA
    unfold LX8_takes_6
    by_cases hkn : k = n + 1
    · subst hkn
      rw [if_pos (nI_lt (by omega) (by omega)), tk_end hc]
      exact tk_zero bl
    · rw [if_neg (nI_nlt (by omega) (by omega)), ix40]
      simp only [rM hQ, m_get hQ h4 (show t + k < 264 by omega), Option.bind_some]
      have step := tk_puts (σ0 := σ0) (z := z) (s := s) (t := t) (d := d) (n := n) (k := k) (c := c) (f := f) (A := A) (lf := lf) hQ hn hd (by omega) hc bl bA (fun C D hC hD => ih (k + 1) C (va_up lf 40 (va_up (lf 40) (t + k) D)) (by omega) (by omega) hC (by rw [va_up_self]; exact mup_lt bl hD) (fun j hj => by rw [va_up_ne _ _ (by decide)]; exact eA j hj))
      by_cases hk2 : k = n
      · rw [if_pos (nI_le (by omega) (by omega))]
        rw [show A k = 0 by rw [hk2]; exact hA0, nI_0] at step
        exact step
      · rw [if_neg (nI_ge (by omega) (by omega)), ix41]
        rw [m_get hQ h5 (show k < 264 by omega), Option.bind_some, eA k (show k < n by omega)]
        exact step
theorem u_giveL (hQ : kM Q) {t n : Nat} (hn : t + n < 264) {A : Nat → Nat} (bA : ∀ k, A k < 65536) (hA0 : A n = 0) :
    ∀ (f k c : Nat) (lf : Nat → Nat → Nat), n + 1 - k < f → k ≤ n + 1 → c ≤ 1 → (∀ j, lf 40 j < 65536) → (∀ j, j < n → lf 41 j = A j) → ∃ g o, LX8_givesBack_5 f (md Q σ0 z s lf) (Q 0) (nI t) (nI n) (nI c) (nI k) = some (md Q σ0 z s (va_up lf 40 g)) ∧ (∀ j, g j < 65536) ∧ (∀ j, j < t + k ∨ t + n < j → g j = lf 40 j) ∧ wv 65536 (fun j => g (t + k + j)) (n + 1 - k) + 65536 ^ (n + 1 - k) * o = c + wv 65536 (fun j => lf 40 (t + k + j)) (n + 1 - k) + wv 65536 (fun j => A (k + j)) (n + 1 - k) := by
  have h4 : (40 : Nat) < 44 := by decide
  have h5 : (41 : Nat) < 44 := by decide
  intro f
  induction f with
  | zero => intro k c lf h; omega
  | succ f ih =>
    intro k c lf hf hk hc bl eA
    unfold LX8_givesBack_5
    by_cases hkn : k = n + 1
    · subst hkn
      refine ⟨lf 40, c, ?_, bl, fun _ _ => rfl, by rw [Nat.sub_self]; simp [wv_0]⟩
      rw [if_pos (nI_lt (by omega) (by omega)), up_same]
    · have b1 := bA k
      have b3 := bl (t + k)
      rw [if_neg (nI_nlt (by omega) (by omega)), ix40]
      simp only [rM hQ, m_get hQ h4 (show t + k < 264 by omega), Option.bind_some]
      have step : ∃ g o, BX8_givesBack_45 (LX8_givesBack_5 f) (md Q σ0 z s lf) (Q 0) (nI t) (nI n) (nI c) (nI k) (nI (lf 40 (t + k))) (nI (A k)) = some (md Q σ0 z s (va_up lf 40 g)) ∧ (∀ j, g j < 65536) ∧ (∀ j, j < t + k ∨ t + n < j → g j = lf 40 j) ∧ wv 65536 (fun j => g (t + k + j)) (n + 1 - k) + 65536 ^ (n + 1 - k) * o = c + wv 65536 (fun j => lf 40 (t + k + j)) (n + 1 - k) + wv 65536 (fun j => A (k + j)) (n + 1 - k) := by
        unfold BX8_givesBack_45
        simp only [g_let]
        rw [nI_add, nI_add, nI_add]
        obtain ⟨T, hT⟩ : ∃ T, T = lf 40 (t + k) + A k + c := ⟨_, rfl⟩
        rw [← hT, ji_and (by omega), ji_div (by omega), nI_1, show (40 : Int32) = nI 40 from rfl]
        simp only [rM hQ, u_puts hQ h4 (show t + k < 264 by omega), Option.bind_some]
        obtain ⟨g, o, e1, e2, e3, e4⟩ := ih (k + 1) (T / 65536) (va_up lf 40 (va_up (lf 40) (t + k) (T % 65536))) (by omega) (by omega) (by omega) (by rw [va_up_self]; exact mup_lt bl (by omega)) (fun j hj => by rw [va_up_ne _ _ (by decide)]; exact eA j hj)
        rw [up_up] at e1
        refine ⟨g, o, e1, e2, fun j hj => ?_, ?_⟩
        · rw [e3 j (by omega), va_up_self, va_up_ne _ _ (by omega)]
        · have e5 := e3 (t + k) (by omega)
          rw [va_up_self, va_up_self] at e5
          rw [va_up_self, show t + (k + 1) = t + k + 1 from rfl, wv_congr (g := fun j => va_up (lf 40) (t + k) (T % 65536) (t + k + 1 + j)) (h := fun j => lf 40 (t + k + 1 + j)) (fun j _ => va_up_ne _ _ (by omega))] at e4
          rw [show n + 1 - k = (n + 1 - (k + 1)) + 1 by omega, wv_step, wv_step, wv_step, e5, Nat.pow_succ, Nat.mul_comm (65536 ^ _) 65536, Nat.mul_assoc]
          generalize 65536 ^ (n + 1 - (k + 1)) * o = P at *
          omega
      by_cases hk2 : k = n
      · rw [if_pos (nI_le (by omega) (by omega))]
        rw [hk2, hA0] at step
        rw [hk2]
        exact step
      · rw [if_neg (nI_ge (by omega) (by omega)), ix41]
        simp only [m_get hQ h5 (show k < 264 by omega), Option.bind_some, eA k (show k < n by omega)]
        exact step
end MG
