/-! the reference: bits, powers, orders, choices -/
theorem jl_lt {a b : Nat} (ha : a < 9223372036854775808) (hb : b < 9223372036854775808) : lg_cmp (lN a) (lN b) < 0 ↔ a < b := by
  rw [lg_cmp_lt, pk_lLT ha hb]
theorem cmpI_negI (a b : Nat) : -cmpI a b = cmpI b a := by
  rcases Nat.lt_trichotomy a b with h | h | h
  · rw [cmpI_lt h, cmpI_gt h]; rfl
  · rw [h, cmpI_eq]; rfl
  · rw [cmpI_gt h, cmpI_lt h]
theorem two_nI (p : Nat) : (2 : Int32) * nI p = nI (2 * p) := by rw [show (2 : Int32) = nI 2 from rfl, pk_mul]
section MK2
variable {Q : Nat → Nat} {σ0 : g_S} {z : g_Z} {v : Nat → Nat} {m : g_M}
theorem r_isP (σ : g_S) (x : Int32) : fX8_isPlace σ x = some (if isP x then 1 else 0, σ) := by
  unfold fX8_isPlace BX8_isPlace_14 BX8_isPlace_15
  by_cases h1 : x < 0
  · rw [if_pos h1, if_neg (fun w => w.1 h1)]; exact g_if_pos (by simp)
  · rw [if_neg h1]
    by_cases h2 : 16 ≤ x
    · rw [if_pos h2, if_neg (fun w => w.2 h2)]; exact g_if_pos (by simp)
    · rw [if_neg h2, if_pos ⟨h1, h2⟩]; exact g_if_pos (by simp)
theorem v_isWhole (hQ : kM Q) {σ : g_S} (M : MSt Q σ0 σ z v) {p : Nat} (hp : p < 16) : fX8_isWhole σ (Q 0) (nI p) = some (if v (2 * p + 1) = 1 then 1 else 0, σ) := by
  unfold fX8_isWhole
  rw [two_nI, nI_1]
  have e := v_isOne hQ M (x := 2 * p + 1) (by omega) (by omega)
  simp only [rS hQ M, e, Option.bind_some]
  exact g_if_pos (by split <;> simp)
theorem v_bel (hQ : kM Q) {σ : g_S} (M : MSt Q σ0 σ z v) {p : Nat} (hp : p < 16) : g_li σ 5 (Q 3) (nI p) = some (nI (z.2.1 p)) := by
  obtain ⟨s, lf, rfl, h⟩ := M
  exact m_bel hQ hp
theorem v_p0 (hQ : kM Q) {σ : g_S} (M : MSt Q σ0 σ z v) (n : Nat) : ∃ σ', g_p σ 8 (Q 0) 0 (.int (nI n)) = some σ' ∧ MSt Q σ0 σ' (n, z.2) v := by
  obtain ⟨s, lf, rfl, h⟩ := M
  exact ⟨_, m_p0 hQ n, s, lf, rfl, h⟩
theorem MV.thr {v : Nat → Nat} {z : g_Z} (h : MV z v m) (n : Nat) : MV (n, z.2) v m := h
theorem v_at0 (hQ : kM Q) {σ : g_S} (M : MSt Q σ0 σ z v) {x : Nat} (hx : x < 44) (x4 : x ≠ 40 ∧ x ≠ 41) : fX8_at σ (Q 0) (nI x) 0 = some (nI (v x % 65536), σ) := by
  obtain ⟨s, lf, rfl, h⟩ := M
  obtain ⟨h1, h2, h3⟩ := h x hx
  obtain ⟨h4, h5⟩ := h3 x4
  rw [show (0 : Int32) = nI 0 from rfl, u_at hQ hx h1 (by decide)]
  congr 3
  rw [← h5]
  unfold la
  by_cases h0 : 0 < s x
  · rw [if_pos h0]
    obtain ⟨k, hk⟩ : ∃ k, s x = k + 1 := ⟨s x - 1, by omega⟩
    rw [hk, wv_head, Nat.add_mul_mod_self_left, Nat.mod_eq_of_lt (h2 0)]
  · rw [if_neg h0, show s x = 0 by omega, wv_0]
theorem v_small16 (hQ : kM Q) {σ : g_S} (M : MSt Q σ0 σ z v) {x : Nat} (hx : x < 44) (x4 : x ≠ 40 ∧ x ≠ 41) : ∃ n, g_li σ 0 (Q 2) (nI x) = some (nI n) ∧ n ≤ 264 ∧ (n ≤ 1 ↔ v x < 65536) := by
  obtain ⟨s, lf, rfl, h⟩ := M
  have hg := h x hx
  refine ⟨s x, m_len hQ hx, hg.1, ?_, ?_⟩
  · intro q
    have := gm_val hg x4
    have h2 : 65536 ^ s x ≤ 65536 ^ 1 := Nat.pow_le_pow_right (by decide) q
    rw [Nat.pow_one] at h2
    omega
  · intro q
    exact gm_size hg x4 (by rw [Nat.pow_one]; exact q)
theorem v_zlen (hQ : kM Q) {σ : g_S} (M : MSt Q σ0 σ z v) {x : Nat} (hx : x < 44) : ∃ σ', g_si σ 0 (Q 2) (nI x) 0 = some σ' ∧ MSt Q σ0 σ' z (va_up v x 0) := by
  obtain ⟨s, lf, rfl, h⟩ := M
  have q := h.up (i := x) (n := 0) (g := lf x) (x := 0) ⟨by omega, (h x hx).2.1, fun _ => ⟨Or.inl rfl, rfl⟩⟩
  rw [up_same] at q
  exact ⟨_, m_setl hQ hx 0, _, _, rfl, q⟩
theorem u_bitsL (hQ : kM Q) {s : Nat → Nat} {lf : Nat → Nat → Nat} {x n top : Nat} (hx : x < 44) (hs : s x ≤ 264) (hn : s x = n + 1) (et : lf x n = top) (t0 : top ≠ 0) : ∀ (f c : Nat), c < f → c ≤ 16 → top < 2 ^ c → ∃ k, isbl top k ∧ k ≤ 16 ∧ LX8_bitsOf_16 f (md Q σ0 z s lf) (Q 0) (nI x) (nI (n + 1)) (nI (16 * n + c)) (nI c - 1) = some (nI (16 * n + k), md Q σ0 z s lf) := by
  intro f
  induction f with
  | zero => intro c h; omega
  | succ f ih =>
    intro c hf hc htop
    cases c with
    | zero => rw [Nat.pow_zero] at htop; omega
    | succ c =>
      unfold LX8_bitsOf_16 BX8_bitsOf_50
      have hp16 : 2 ^ (c + 1) ≤ 2 ^ 16 := Nat.pow_le_pow_right (by decide) hc
      have e16 : (2 : Nat) ^ 16 = 65536 := rfl
      have e1 : la s lf x n = top := by unfold la; rw [if_pos (by omega), et]
      rw [nI_pred, if_neg (nI_pos (by omega)), if_neg (nI_nle (by omega) (by omega)), rMo hQ, nI_s1 (by omega), Nat.add_sub_cancel, u_at hQ hx hs (by omega), Option.bind_some, e1, ja_shrK (by omega) (by omega)]
      have e2 : nI (top / 2 ^ c) &&& 1 = nI (top / 2 ^ c % 2) := pk_andN (m := 1) (by have := Nat.div_le_self top (2 ^ c); omega) 1 (by decide)
      rw [e2]
      have hd2 : top / 2 ^ c < 2 := Nat.div_lt_of_lt_mul (by rw [← Nat.pow_succ]; exact htop)
      have hd3 : top / 2 ^ c % 2 = top / 2 ^ c := Nat.mod_eq_of_lt hd2
      by_cases h0 : top / 2 ^ c % 2 = 0
      · rw [if_pos (by rw [h0]; rfl)]
        simp only [g_let]
        have hlt : top < 2 ^ c := by
          rcases Nat.div_eq_zero_iff.mp (show top / 2 ^ c = 0 by rw [← hd3]; exact h0) with w | w
          · have := Nat.pow_pos (n := c) (show 0 < 2 by decide); omega
          · exact w
        obtain ⟨k, k1, k2, k3⟩ := ih c (by omega) (by omega) hlt
        refine ⟨k, k1, k2, ?_⟩
        rw [ja_m1, ja_m1, show 16 * n + (c + 1) = 16 * n + c + 1 by omega, nI_pred]
        exact k3
      · rw [if_neg (fun w => h0 ((ja_e0 (by omega)).mp w))]
        refine ⟨c + 1, ⟨htop, Or.inr ?_⟩, hc, rfl⟩
        rw [Nat.add_sub_cancel]
        rcases Nat.lt_or_ge top (2 ^ c) with w | w
        · rw [Nat.div_eq_of_lt w] at h0; omega
        · exact w
theorem v_bits (hQ : kM Q) {σ : g_S} (M : MSt Q σ0 σ z v) {x : Nat} (hx : x < 44) (x4 : x ≠ 40 ∧ x ≠ 41) : ∃ k, isbl (v x) k ∧ k < 10000 ∧ fX8_bitsOf σ (Q 0) (nI x) = some (nI k, σ) := by
  obtain ⟨s, lf, rfl, h⟩ := M
  obtain ⟨h1, h2, h3⟩ := h x hx
  obtain ⟨h4, h5⟩ := h3 x4
  unfold fX8_bitsOf
  rw [(rM hQ).2.2.1, Option.bind_some, m_len hQ hx, Option.bind_some]
  simp only [g_let]
  rw [show (16 : Int32) = nI 16 from rfl, pk_mul]
  by_cases h0 : s x = 0
  · refine ⟨0, ?_, by omega, ?_⟩
    · rw [← h5, h0, wv_0]; exact ⟨by decide, Or.inl rfl⟩
    · obtain ⟨f, hfu⟩ : ∃ f, g_fuel = f + 1 := ⟨g_fuel - 1, by have := g_fuel_ge; omega⟩
      rw [hfu, LX8_bitsOf_16, if_neg (by decide), h0, if_pos (by decide)]
      rfl
  · obtain ⟨n, hn⟩ : ∃ n, s x = n + 1 := ⟨s x - 1, by omega⟩
    have ht0 : lf x n ≠ 0 := by
      rcases h4 with w | w
      · omega
      · rw [hn] at w; exact w
    obtain ⟨k, k1, k2, k3⟩ := u_bitsL (σ0 := σ0) (z := z) (s := s) (lf := lf) hQ hx h1 hn rfl ht0 g_fuel 16 (fuel_ge (by omega)) (by omega) (h2 n)
    refine ⟨16 * n + k, ?_, by omega, ?_⟩
    · rw [← h5, hn, wv_s]
      have := isbl_shift (t := wv 65536 (lf x) n) (m := 16 * n) k1 (by rw [Nat.pow_mul]; exact wv_lt (fun q _ => h2 q)) ht0
      rw [Nat.pow_mul] at this
      exact this
    · rw [hn, show 16 * (n + 1) = 16 * n + 16 by omega]
      exact k3
theorem v_powL (hQ : kM Q) {x w e X : Nat} (hx : x < 32) (hw : w = 32 ∨ w = 33) (lX : X < TOP) : ∀ (f k : Nat) (σ : g_S) (v : Nat → Nat), e - k < f → k ≤ e → e ≤ 10000 → MSt Q σ0 σ z v → v x = X → v w = X ^ k → X ^ k < TOP → ∃ σ' v', LX8_power_60 f σ (Q 0) (nI x) (nI e) (nI w) (nI k) = some (if X ^ e < TOP then 1 else 0, σ') ∧ MSt Q σ0 σ' z v' ∧ (X ^ e < TOP → v' w = X ^ e) ∧ ∀ i, i ≠ 34 → i ≠ w → v' i = v i := by
  intro f
  induction f with
  | zero => intro k σ v h; omega
  | succ f ih =>
    intro k σ v hf hk he M ex ew hlt
    unfold LX8_power_60
    by_cases hke : k = e
    · subst hke
      rw [if_pos (nI_le (Nat.le_refl k) (by omega)), if_pos hlt]
      exact ⟨σ, v, rfl, M, fun _ => ew, fun _ _ _ => rfl⟩
    · rw [if_neg (nI_ge (by omega) (by omega)), show (34 : Int32) = nI 34 from rfl]
      obtain ⟨σ1, e1, M1⟩ := v_prod hQ M (i := 34) (a := w) (b := x) (by decide) (by omega) (by omega) (by omega) (by omega) (by omega) (by omega) (by rw [ew]; exact hlt) (by rw [ex]; exact lX)
      rw [ew, ex, ← Nat.pow_succ] at M1
      have e2 := v_tooG hQ M1 (x := 34) (by decide) (by decide)
      rw [va_up_self] at e2
      simp only [rS hQ M, e1, Option.bind_some, rS hQ M1, e2]
      by_cases hg : X ^ (k + 1) < TOP
      · rw [if_pos (by rw [if_pos hg])]
        obtain ⟨σ2, e3, M2⟩ := v_copy hQ M1 (x := 34) (w := w) (by decide) (by omega) (by omega) (by decide)
        rw [va_up_self] at M2
        simp only [e3, Option.bind_some, g_let]
        rw [nI_1]
        obtain ⟨σ', v', f1, f2, f3, f4⟩ := ih (k + 1) σ2 _ (by omega) (by omega) he M2 (by rw [va_up_ne _ _ (by omega), va_up_ne _ _ (by omega)]; exact ex) (va_up_self _ _ _) hg
        exact ⟨σ', v', f1, f2, f3, fun i h1 h2 => by rw [f4 i h1 h2, va_up_ne _ _ h2, va_up_ne _ _ h1]⟩
      · rw [if_neg (by rw [if_neg hg]; decide)]
        have hbig : ¬ X ^ e < TOP := by
          have := pow_big (N := X) (k := k + 1) (e := e) (by omega) (by omega)
          omega
        rw [if_neg hbig]
        exact ⟨σ1, _, rfl, M1, fun w => absurd w hbig, fun i h1 h2 => va_up_ne _ _ h1⟩
theorem v_power (hQ : kM Q) {σ : g_S} (M : MSt Q σ0 σ z v) {x w e : Nat} (hx : x < 32) (hw : w = 32 ∨ w = 33) (lX : v x < TOP) (he : e ≤ 10000) : ∃ σ' v', fX8_power σ (Q 0) (nI x) (nI e) (nI w) = some (if v x ^ e < TOP then 1 else 0, σ') ∧ MSt Q σ0 σ' z v' ∧ (v x ^ e < TOP → v' w = v x ^ e) ∧ ∀ i, i ≠ 34 → i ≠ w → v' i = v i := by
  have hT1 := TOP_1
  obtain ⟨σ1, e1, M1⟩ := v_small hQ M (x := w) (n := 1) (by omega) (by omega)
  have kx : va_up v w 1 x = v x := va_up_ne _ _ (by omega)
  unfold fX8_power BX8_power_18
  rw [show (1 : Int32) = nI 1 from rfl]
  simp only [rS hQ M, e1, Option.bind_some]
  rw [show nI 1 = (1 : Int32) from rfl]
  by_cases he0 : e = 0
  · rw [if_pos (by rw [he0]; rfl), he0, Nat.pow_zero, if_pos hT1]
    exact ⟨σ1, _, rfl, M1, fun _ => va_up_self _ _ _, fun i h1 h2 => va_up_ne _ _ h2⟩
  · rw [if_neg (fun q => he0 ((ja_e0 (by omega)).mp q))]
    have e2 := v_isOne hQ M1 (x := x) (by omega) (by omega)
    rw [kx] at e2
    simp only [rS hQ M1, e2, Option.bind_some]
    by_cases h1 : v x = 1
    · rw [if_neg (by rw [if_pos h1]; decide), h1, Nat.one_pow, if_pos hT1]
      exact ⟨σ1, _, rfl, M1, fun _ => va_up_self _ _ _, fun i h1 h2 => va_up_ne _ _ h2⟩
    · rw [if_pos (by rw [if_neg h1])]
      have e3 := v_isZero hQ M1 (x := x) (by omega) (by omega)
      rw [kx] at e3
      simp only [e3, Option.bind_some]
      by_cases h0 : v x = 0
      · rw [if_neg (by rw [if_pos h0]; decide), h0, Nat.zero_pow (by omega), if_pos (by omega)]
        obtain ⟨σ2, e4, M2⟩ := v_zlen hQ M1 (x := w) (by omega)
        simp only [rS hQ M1, e4, Option.bind_some]
        exact ⟨σ2, _, rfl, M2, fun _ => va_up_self _ _ _, fun i h1 h2 => by rw [va_up_ne _ _ h2, va_up_ne _ _ h2]⟩
      · rw [if_pos (by rw [if_neg h0])]
        obtain ⟨k, k1, k2, k3⟩ := v_bits hQ M1 (x := x) (by omega) (by omega)
        rw [kx] at k1
        have hk0 := isbl_pos k1 h0
        simp only [rS hQ M1, k3, Option.bind_some]
        have hmul : (k - 1) * e ≤ 10000 * 10000 := Nat.mul_le_mul (by omega) he
        rw [nI_s1 (by omega), ji_l (by omega), ji_l (by omega), lN_mul, show (2048 : Int64) = lN 2048 from rfl]
        by_cases hb : (k - 1) * e < 2048
        · rw [if_pos ((jl_lt (by omega) (by omega)).mpr hb), show (0 : Int32) = nI 0 from rfl]
          obtain ⟨σ', v', f1, f2, f3, f4⟩ := v_powL (σ0 := σ0) (z := z) (e := e) hQ hx hw lX g_fuel 0 σ1 _ (fuel_ge (by omega)) (by omega) he M1 kx (by rw [va_up_self, Nat.pow_zero]) (by rw [Nat.pow_zero]; exact hT1)
          exact ⟨σ', v', f1, f2, f3, fun i h1 h2 => by rw [f4 i h1 h2, va_up_ne _ _ h2]⟩
        · rw [if_neg (fun q => hb ((jl_lt (by omega) (by omega)).mp q))]
          have hbig : ¬ v x ^ e < TOP := by
            have q1 : 2 ^ (k - 1) ≤ v x := by rcases k1.2 with q | q; omega; exact q
            have q2 : (2 ^ (k - 1)) ^ e ≤ v x ^ e := Nat.pow_le_pow_left q1 e
            rw [← Nat.pow_mul] at q2
            have q3 : 2 ^ 2048 ≤ 2 ^ ((k - 1) * e) := Nat.pow_le_pow_right (by decide) (by omega)
            unfold TOP
            omega
          rw [if_neg hbig]
          exact ⟨σ1, _, rfl, M1, fun w => absurd w hbig, fun i h1 h2 => va_up_ne _ _ h2⟩
theorem v_orderF (hQ : kM Q) {σ : g_S} (M : MSt Q σ0 σ z v) (V : MV z v m) {a b : Nat} (ha : a < 16) (hb : b < 16) : ∃ σ' v' , fX8_compare σ (Q 0) (nI a) (nI b) = some (cOrd (m.1 a) (m.1 b), σ') ∧ MSt Q σ0 σ' (0, z.2) v' ∧ ∀ i, i ≠ 34 → i ≠ 43 → v' i = v i := by
  obtain ⟨fa, ga⟩ := V.fr ha
  obtain ⟨fb, gb⟩ := V.fr hb
  obtain ⟨x1, x2, x3, x4, x5, x6⟩ := fa
  obtain ⟨z1, z2, z3, z4, z5, z6⟩ := fb
  simp only at x1 x2 x3 x4 x5 x6 z1 z2 z3 z4 z5 z6
  obtain ⟨σ1, e1, M1⟩ := v_p0 hQ M 0
  rw [nI_0] at e1
  unfold fX8_compare BX8_compare_19 BX8_compare_104 BX8_compare_51
  have hpa : isP (nI a) := ⟨nI_pos (by omega), by rw [show (16 : Int32) = nI 16 from rfl]; exact nI_ge ha (by omega)⟩
  have hpb : isP (nI b) := ⟨nI_pos (by omega), by rw [show (16 : Int32) = nI 16 from rfl]; exact nI_ge hb (by omega)⟩
  simp only [e1, Option.bind_some, r_isP]
  rw [if_neg (by rw [if_pos hpa]; decide), if_neg (by rw [if_pos hpb]; decide)]
  have b1 := v_bel hQ M1 ha
  have b2 := v_bel hQ M1 hb
  simp only [rS hQ M1, b1, b2, Option.bind_some]
  rw [← ga, ← gb]
  unfold cOrd
  simp only
  by_cases hbe : z.2.1 a = z.2.1 b
  · rw [if_pos (by rw [hbe]), if_pos hbe, two_nI, two_nI, nI_1, nI_1, show (34 : Int32) = nI 34 from rfl, show (43 : Int32) = nI 43 from rfl]
    obtain ⟨σ2, e2, M2⟩ := v_prod hQ M1 (i := 34) (a := 2 * a) (b := 2 * b + 1) (by decide) (by omega) (by omega) (by omega) (by omega) (by omega) (by omega) x1 z3
    obtain ⟨σ3, e3, M3⟩ := v_prod hQ M2 (i := 43) (a := 2 * b) (b := 2 * a + 1) (by decide) (by omega) (by omega) (by omega) (by omega) (by omega) (by omega) (by rw [va_up_ne _ _ (by omega)]; exact z1) (by rw [va_up_ne _ _ (by omega)]; exact x3)
    rw [va_up_ne _ _ (show 2 * b ≠ 34 by omega), va_up_ne _ _ (show 2 * a + 1 ≠ 34 by omega)] at M3
    have e4 := v_order hQ M3 (i := 34) (j := 43) (by decide) (by decide) (by decide) (by decide)
    rw [va_up_self, va_up_ne _ _ (show (34 : Nat) ≠ 43 by decide), va_up_self] at e4
    have b3 := v_bel hQ M3 ha
    simp only [e2, Option.bind_some, rS hQ M2, e3, rS hQ M3, e4, b3]
    refine ⟨σ3, _, ?_, M3, fun i h1 h2 => by rw [va_up_ne _ _ h2, va_up_ne _ _ h1]⟩
    by_cases h0 : z.2.1 a = 0
    · rw [if_pos (by rw [h0]; rfl), if_pos h0]
    · rw [if_neg (fun w => h0 ((ja_e0 (by omega)).mp w)), if_neg h0, cmpI_negI]
  · rw [if_neg (fun w => hbe ((nI_bx x5 z5).mp w)), if_neg hbe]
    by_cases h0 : z.2.1 a = 0
    · rw [if_pos (by rw [h0]; rfl), if_pos h0]
      exact ⟨σ1, v, rfl, M1, fun _ _ _ => rfl⟩
    · rw [if_neg (fun w => h0 ((ja_e0 (by omega)).mp w)), if_neg h0]
      exact ⟨σ1, v, rfl, M1, fun _ _ _ => rfl⟩
theorem cOrd_eq {x w : g_Fr} (hx : fOK x) (hw : fOK w) (h : cOrd x w = 0) : x = w := by
  unfold cOrd at h
  by_cases hb : x.2.2 = w.2.2
  · rw [if_pos hb] at h
    have he : x.1 * w.2.1 = w.1 * x.2.1 := by
      split at h
      · exact (cmpI_z _ _).mp h
      · exact ((cmpI_z _ _).mp h).symm
    obtain ⟨e1, e2⟩ := a_uniq hx.2.2.2.1 hw.2.2.2.1 hx.2.1 he
    obtain ⟨n, d, b⟩ := x
    obtain ⟨n', d', b'⟩ := w
    simp only at e1 e2 hb
    rw [e1, e2, hb]
  · rw [if_neg hb] at h
    split at h <;> exact absurd h (by decide)
end MK2
