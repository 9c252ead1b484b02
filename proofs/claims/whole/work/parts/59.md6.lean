/-! the reference: the division -/
theorem jd16 {a c b : Nat} (ha : a < 65536) (hc : c < 65536) (hb : b ≤ 15) : g_ishr (nI a) (nI b) ||| (g_ishl (nI c) (16 - nI b) &&& 65535) = nI (a / 2 ^ b + c % 2 ^ b * 2 ^ (16 - b)) := by
  have e16 : (65536 : Nat) = 2 ^ b * 2 ^ (16 - b) := pow_split (a := b) (b := 16) (by omega)
  have hp : 0 < 2 ^ b := Nat.pow_pos (by decide)
  have hq : 2 ^ (16 - b) ≤ 2 ^ 16 := Nat.pow_le_pow_right (by decide) (by omega)
  have e16' : (2 : Nat) ^ 16 = 65536 := rfl
  have hm : c * 2 ^ (16 - b) ≤ 65535 * 65536 := Nat.mul_le_mul (by omega) (by omega)
  rw [ja_shrK (by omega) (by omega), show (16 : Int32) = nI 16 from rfl, pk_sub (by omega), ja_shlK _ (by omega)]
  have e1 : nI (c * 2 ^ (16 - b)) &&& 65535 = nI (c * 2 ^ (16 - b) % 2 ^ 16) := pk_andN (m := 65535) (by omega) 16 (by decide)
  have e2 : c * 2 ^ (16 - b) % 2 ^ 16 = c % 2 ^ b * 2 ^ (16 - b) := by
    rw [e16', e16, Nat.mul_mod_mul_right]
  have ha2 : a / 2 ^ b < 2 ^ (16 - b) := Nat.div_lt_of_lt_mul (by rw [← e16]; exact ha)
  have hm2 : c % 2 ^ b * 2 ^ (16 - b) < 65536 := by
    rw [e16]
    exact Nat.mul_lt_mul_of_pos_right (Nat.mod_lt _ hp) (Nat.pow_pos (by decide))
  rw [e1, e2, ja_orN (by omega) (by omega)]
  congr 1
  rw [Nat.or_comm, Nat.mul_comm (c % 2 ^ b), ← Nat.two_pow_add_eq_or_of_lt ha2, Nat.add_comm]
theorem u_scaled {g : Nat → Nat} {m b top y : Nat} (hg : ∀ q, g q < 65536) (hb : b ≤ 15) (h1 : 32768 ≤ top * 2 ^ b) (h2 : top * 2 ^ b < 65536) (y1 : top * 65536 ^ (m + 1) ≤ y) (y2 : y < (top + 1) * 65536 ^ (m + 1)) (hw : wv 65536 g (m + 3) = 2 ^ b * y) : 65536 ≤ 2 * g (m + 1) ∧ wv 65536 g (m + 2) = 2 ^ b * y := by
  have e16 : (65536 : Nat) = 2 ^ b * 2 ^ (16 - b) := pow_split (a := b) (b := 16) (by omega)
  have hp : 0 < 2 ^ b := Nat.pow_pos (by decide)
  have ht : top + 1 ≤ 2 ^ (16 - b) := by
    have : 2 ^ b * top < 2 ^ b * 2 ^ (16 - b) := by rw [← e16, Nat.mul_comm]; exact h2
    exact Nat.lt_of_mul_lt_mul_left this
  have hlt : 2 ^ b * y < 65536 ^ (m + 2) := by
    have q1 : 2 ^ b * y < 2 ^ b * ((top + 1) * 65536 ^ (m + 1)) := Nat.mul_lt_mul_of_pos_left y2 hp
    have q2 : 2 ^ b * ((top + 1) * 65536 ^ (m + 1)) ≤ 2 ^ b * (2 ^ (16 - b) * 65536 ^ (m + 1)) := Nat.mul_le_mul_left _ (Nat.mul_le_mul_right _ ht)
    have q3 : 2 ^ b * (2 ^ (16 - b) * 65536 ^ (m + 1)) = 65536 ^ (m + 2) := by
      rw [← Nat.mul_assoc, ← e16, Nat.pow_succ 65536 (m + 1), Nat.mul_comm]
    omega
  have hge : 32768 * 65536 ^ (m + 1) ≤ 2 ^ b * y := by
    have q1 : 2 ^ b * (top * 65536 ^ (m + 1)) ≤ 2 ^ b * y := Nat.mul_le_mul_left _ y1
    have q2 : 2 ^ b * (top * 65536 ^ (m + 1)) = top * 2 ^ b * 65536 ^ (m + 1) := by ac_rfl
    have q3 : 32768 * 65536 ^ (m + 1) ≤ top * 2 ^ b * 65536 ^ (m + 1) := Nat.mul_le_mul_right _ h1
    omega
  have e1 : wv 65536 g (m + 3) = wv 65536 g (m + 2) + g (m + 2) * 65536 ^ (m + 2) := wv_s _ _ _
  have h0 : g (m + 2) = 0 := by
    rcases Nat.eq_zero_or_pos (g (m + 2)) with q | q
    · exact q
    · have : 1 * 65536 ^ (m + 2) ≤ g (m + 2) * 65536 ^ (m + 2) := Nat.mul_le_mul_right _ q
      omega
  have e2 : wv 65536 g (m + 2) = 2 ^ b * y := by
    rw [h0, Nat.zero_mul] at e1
    omega
  refine ⟨?_, e2⟩
  have e3 : wv 65536 g (m + 2) = wv 65536 g (m + 1) + g (m + 1) * 65536 ^ (m + 1) := wv_s _ _ _
  have hl := wv_lt (B := 65536) (n := m + 1) (g := g) (fun q _ => hg q)
  rcases Nat.lt_or_ge (g (m + 1)) 32768 with q | q
  · have : (g (m + 1) + 1) * 65536 ^ (m + 1) ≤ 32768 * 65536 ^ (m + 1) := Nat.mul_le_mul_right _ q
    rw [Nat.add_mul, Nat.one_mul] at this
    omega
  · omega
section MI
variable {Q : Nat → Nat} {σ0 : g_S} {z : g_Z} {s : Nat → Nat} {lf : Nat → Nat → Nat} {v : Nat → Nat}
theorem u_downL (hQ : kM Q) {n b : Nat} (hn : n + 1 ≤ 264) (hb : b ≤ 15) {U : Nat → Nat} (bU : ∀ k, U k < 65536) :
    ∀ (f k : Nat) (lf : Nat → Nat → Nat), n - k < f → k ≤ n → (∀ j, lf 36 j < 65536) → lf 40 = U → ∃ g, LX8_divides_193 f (md Q σ0 z s lf) (Q 0) (nI n) (nI b) (nI k) = some (md Q σ0 z (va_up s 36 (wt g n)) (va_up lf 36 g)) ∧ (∀ j, g j < 65536) ∧ (∀ j, j < k → g j = lf 36 j) ∧ ∀ j, k ≤ j → j < n → g j = U j / 2 ^ b + U (j + 1) % 2 ^ b * 2 ^ (16 - b) := by
  have h6 : (36 : Nat) < 44 := by decide
  have h4 : (40 : Nat) < 44 := by decide
  have e16 : (65536 : Nat) = 2 ^ b * 2 ^ (16 - b) := pow_split (a := b) (b := 16) (by omega)
  intro f
  induction f with
  | zero => intro k lf h; omega
  | succ f ih =>
    intro k lf hf hk b6 eU
    unfold LX8_divides_193
    by_cases hkn : k = n
    · subst hkn
      rw [if_pos (nI_le (Nat.le_refl k) (by omega)), rMo hQ, show (36 : Int32) = nI 36 from rfl, u_trim hQ h6 b6 (by omega)]
      exact ⟨lf 36, by rw [up_same]; rfl, b6, fun _ _ => rfl, fun j h1 h2 => by omega⟩
    · have c1 := bU k
      have c2 := bU (k + 1)
      have r1 := (rM (σ0 := σ0) (z := z) (s := s) (lf := lf) hQ).2.1
      have eidx : 10560 + nI k = nI (264 * 40 + k) := by rw [show (10560 : Int32) = nI 10560 from rfl, nI_add]
      rw [if_neg (nI_ge (by omega) (by omega)), eidx, nI_1 (264 * 40 + k), show 264 * 40 + k + 1 = 264 * 40 + (k + 1) by omega, r1, Option.bind_some, m_get hQ h4 (show k < 264 by omega), Option.bind_some, Option.bind_some, m_get hQ h4 (show k + 1 < 264 by omega), Option.bind_some, eU, jd16 c1 c2 hb]
      simp only [g_let]
      have hval : U k / 2 ^ b + U (k + 1) % 2 ^ b * 2 ^ (16 - b) < 65536 := by
        have q1 : U k / 2 ^ b < 2 ^ (16 - b) := Nat.div_lt_of_lt_mul (by rw [← e16]; exact c1)
        have q2 : (U (k + 1) % 2 ^ b + 1) * 2 ^ (16 - b) ≤ 2 ^ b * 2 ^ (16 - b) := Nat.mul_le_mul_right _ (Nat.mod_lt _ (Nat.pow_pos (by decide)))
        rw [← e16, Nat.add_mul, Nat.one_mul] at q2
        omega
      rw [rMo hQ, show (36 : Int32) = nI 36 from rfl, u_puts hQ h6 (show k < 264 by omega), Option.bind_some, nI_1]
      obtain ⟨g, e1, e2, e3, e4⟩ := ih (k + 1) (va_up lf 36 (va_up (lf 36) k (U k / 2 ^ b + U (k + 1) % 2 ^ b * 2 ^ (16 - b)))) (by omega) (by omega) (by rw [va_up_self]; exact mup_lt b6 hval) (by rw [va_up_ne _ _ (by decide)]; exact eU)
      rw [up_up] at e1
      refine ⟨g, e1, e2, fun j hj => ?_, fun j h1 h2 => ?_⟩
      · rw [e3 j (by omega), va_up_self, va_up_ne _ _ (by omega)]
      · rcases Nat.lt_or_ge k j with q | q
        · exact e4 j (by omega) h2
        · rw [show j = k by omega, e3 k (by omega), va_up_self, va_up_self]
/-- how far up the divisor goes -/
theorem u_byL (hQ : kM Q) {x y n top : Nat} (hy : y < 44) (hs : s y ≤ 264) (hn : 0 < n) (hn2 : n ≤ s y) (et : lf y (n - 1) = top) (t0 : 0 < top) (t1 : top < 65536) : ∀ (f b : Nat), 16 - b < f → b ≤ 15 → top * 2 ^ b < 65536 → ∃ b', b' ≤ 15 ∧ 32768 ≤ top * 2 ^ b' ∧ top * 2 ^ b' < 65536 ∧ LX8_divides_70 f (md Q σ0 z s lf) (Q 0) (nI x) (nI y) (nI n) (nI b) = ((g_fr (md Q σ0 z s lf) 8 (Q 0) 2).bind fun v10 => (g_li (md Q σ0 z s lf) 0 v10 (nI x)).bind fun v11 => g_let (v11 - nI n) fun v12 => (g_o (md Q σ0 z s lf) 8 (Q 0)).bind fun _ => (fX8_lifted (md Q σ0 z s lf) (Q 0) (nI x) (nI b') 40).bind fun r14 => (g_o r14 8 (Q 0)).bind fun _ => (fX8_lifted r14 (Q 0) (nI y) (nI b') 41).bind fun r16 => LX8_divides_124 g_fuel r16 (Q 0) (nI n) (nI b') v12 v12) := by
  intro f
  induction f with
  | zero => intro b h; omega
  | succ f ih =>
    intro b hf hb hlt
    unfold LX8_divides_70
    have e1 : la s lf y (n - 1) = top := by unfold la; rw [if_pos (by omega), et]
    rw [rMo hQ, nI_s1 (by omega), u_at hQ hy hs (by omega), Option.bind_some, e1, ja_shlK _ (by omega), show (32768 : Int32) = nI 32768 from rfl]
    by_cases h : 32768 ≤ top * 2 ^ b
    · rw [if_pos (nI_le h (by omega))]
      exact ⟨b, hb, h, hlt, rfl⟩
    · rw [if_neg (nI_ge (by omega) (by omega))]
      simp only [g_let]
      rw [nI_1]
      have hnb : top * 2 ^ (b + 1) < 65536 := by rw [Nat.pow_succ, ← Nat.mul_assoc]; omega
      have hb15 : b + 1 ≤ 15 := by
        rcases Nat.lt_or_ge b 15 with q | q
        · omega
        · exfalso
          have e15 : b = 15 := by omega
          rw [e15] at h
          have : 1 * 2 ^ 15 ≤ top * 2 ^ 15 := Nat.mul_le_mul_right _ t0
          omega
      exact ih (b + 1) (by omega) hb15 hnb
theorem v_divides (hQ : kM Q) {σ : g_S} (M : MSt Q σ0 σ z v) {x y : Nat} (hx : x < 44) (hy : y < 44) (x4 : x ≠ 35 ∧ x ≠ 36 ∧ x ≠ 40 ∧ x ≠ 41) (y4 : y ≠ 35 ∧ y ≠ 36 ∧ y ≠ 40 ∧ y ≠ 41) (lx : v x < 65536 ^ 262) (y0 : v y ≠ 0) :
    ∃ σ' v', fX8_divides σ (Q 0) (nI x) (nI y) = some σ' ∧ MSt Q σ0 σ' z v' ∧ v' 35 = v x / v y ∧ v' 36 = v x % v y ∧ ∀ i, i ≠ 35 → i ≠ 36 → v' i = v i := by
  have h35 : (35 : Nat) < 44 := by decide
  have h36 : (36 : Nat) < 44 := by decide
  have h40 : (40 : Nat) < 44 := by decide
  have h41 : (41 : Nat) < 44 := by decide
  have xx : x ≠ 40 ∧ x ≠ 41 := ⟨x4.2.2.1, x4.2.2.2⟩
  have yy : y ≠ 40 ∧ y ≠ 41 := ⟨y4.2.2.1, y4.2.2.2⟩
  unfold fX8_divides
  have eo := v_order hQ M hx hy xx yy
  simp only [rS hQ M, eo, Option.bind_some]
  by_cases hlt : v x < v y
  · rw [if_neg (by rw [cmpI_lt hlt]; decide)]
    obtain ⟨σ1, e1, M1⟩ := v_copy hQ M hx h36 (by omega) xx
    obtain ⟨s1, l1, rfl, g1⟩ := id M1
    have q := g1.up (i := 35) (n := 0) (g := l1 35) (x := 0) ⟨by omega, (g1 35 h35).2.1, fun _ => ⟨Or.inl rfl, rfl⟩⟩
    rw [up_same] at q
    refine ⟨_, _, ?_, ⟨_, _, rfl, q⟩, ?_, ?_, fun i h1 h2 => by rw [va_up_ne _ _ h1, va_up_ne _ _ h2]⟩
    · rw [show (36 : Int32) = nI 36 from rfl, e1, Option.bind_some, (rM hQ).2.2.1, Option.bind_some, show (35 : Int32) = nI 35 from rfl, show (0 : Int32) = nI 0 from rfl, m_setl hQ h35]
      rfl
    · rw [va_up_self, Nat.div_eq_of_lt hlt]
    · rw [va_up_ne _ _ (by decide), va_up_self, Nat.mod_eq_of_lt hlt]
  · rw [if_pos (Int32.not_lt.mp (fun w => hlt ((cmpI_neg _ _).mp w)))]
    obtain ⟨s, lf, rfl, h⟩ := id M
    have gx := h x hx
    have gy := h y hy
    obtain ⟨a1, a2, a3⟩ := id gx
    obtain ⟨b1, b2, b3⟩ := id gy
    obtain ⟨a5, a6⟩ := a3 xx
    obtain ⟨b5, b6⟩ := b3 yy
    have sx := gm_size gx xx lx
    have hyx : s y ≤ s x := gm_size gy yy (Nat.lt_of_le_of_lt (by omega) (gm_val gx xx))
    have sy0 : s y ≠ 0 := fun w => by rw [w, wv_0] at b6; omega
    simp only [m_len hQ hy, Option.bind_some]
    by_cases hs1 : s y = 1
    · rw [if_pos (by rw [hs1]; rfl)]
      have hvy : v y = lf y 0 := by rw [← b6, hs1, wv_s, wv_0]; simp
      have e0 := u_at (σ0 := σ0) (z := z) (s := s) (lf := lf) (k := 0) hQ hy b1 (by decide)
      have e0' : la s lf y 0 = v y := by unfold la; rw [if_pos (by omega), hvy]
      rw [e0'] at e0
      obtain ⟨σ1, e1, M1⟩ := v_copy hQ M hx h35 (by omega) xx
      have vy16 : v y < 65536 := by rw [hvy]; exact b2 0
      obtain ⟨σ2, e2, M2⟩ := v_div hQ M1 h35 (by decide) (Nat.pos_of_ne_zero y0) vy16
      rw [va_up_self] at e2 M2
      have hml := Nat.mod_lt (v x) (Nat.pos_of_ne_zero y0)
      obtain ⟨σ3, e3, M3⟩ := v_small hQ M2 h36 (n := v x % v y) (by omega)
      refine ⟨σ3, _, ?_, M3, ?_, ?_, fun i h1 h2 => by rw [va_up_ne _ _ h2, va_up_ne _ _ h1, va_up_ne _ _ h1]⟩
      · rw [show (0 : Int32) = nI 0 from rfl, e0, Option.bind_some, rMo hQ, show (35 : Int32) = nI 35 from rfl, e1, Option.bind_some]
        simp only [rS hQ M1, e2, Option.bind_some, rS hQ M2]
        rw [show (36 : Int32) = nI 36 from rfl, e3]
        rfl
      · rw [va_up_ne _ _ (by decide), va_up_self]
      · rw [va_up_self]
    · rw [if_neg (fun w => hs1 ((ja_e1 (by omega)).mp w))]
      obtain ⟨m, hm⟩ : ∃ m, s y = m + 2 := ⟨s y - 2, by omega⟩
      have htop : lf y (m + 1) ≠ 0 := by
        rcases b5 with w | w
        · omega
        · rw [hm] at w; exact w
      obtain ⟨b, k1, k2, k3, k4⟩ := u_byL (σ0 := σ0) (z := z) (s := s) (lf := lf) (x := x) (y := y) (n := s y) (top := lf y (m + 1)) hQ hy b1 (by omega) (Nat.le_refl _) (by rw [hm]; rfl) (Nat.pos_of_ne_zero htop) (b2 _) g_fuel 0 (fuel_ge (by omega)) (by omega) (by rw [Nat.pow_zero, Nat.mul_one]; exact b2 _)
      rw [← nI_0, k4, (rM hQ).2.2.1, Option.bind_some, m_len hQ hx, Option.bind_some]
      simp only [g_let]
      rw [pk_sub hyx, rMo hQ]
      -- both moved up
      obtain ⟨g5, e1, c1, c2⟩ := u_lift (σ0 := σ0) (z := z) (s := s) (lf := lf) (m := b) hQ h40 hx xx.1 k1 (by omega) a2 (h 40 h40).2.1 a6
      rw [show (40 : Int32) = nI 40 from rfl, e1, Option.bind_some, rMo hQ]
      obtain ⟨g6, e2, d1, d2⟩ := u_lift (σ0 := σ0) (z := z) (s := va_up s 40 (s x + 1)) (lf := va_up lf 40 g5) (m := b) (j := y) (i := 41) (x := v y) hQ h41 hy yy.2 k1 (by rw [va_up_ne _ _ yy.1]; omega) (by rw [va_up_ne _ _ yy.1]; exact b2) (by rw [va_up_ne _ _ (by decide)]; exact (h 41 h41).2.1) (by rw [va_up_ne _ _ yy.1, va_up_ne _ _ yy.1]; exact b6)
      rw [va_up_ne _ _ yy.1, hm] at e2 d2
      rw [show (41 : Int32) = nI 41 from rfl, e2, Option.bind_some]
      have hvy1 : lf y (m + 1) * 65536 ^ (m + 1) ≤ v y ∧ v y < (lf y (m + 1) + 1) * 65536 ^ (m + 1) := by
        have e3 : v y = wv 65536 (lf y) (m + 1) + lf y (m + 1) * 65536 ^ (m + 1) := by rw [← b6, hm]; exact wv_s _ _ _
        have hl := wv_lt (B := 65536) (n := m + 1) (g := lf y) (fun q _ => b2 q)
        rw [Nat.add_mul, Nat.one_mul]
        omega
      obtain ⟨z1, z3⟩ := u_scaled d1 k1 k2 k3 hvy1.1 hvy1.2 d2
      obtain ⟨hi, hhi⟩ : ∃ hi, hi = s x - s y := ⟨_, rfl⟩
      rw [← hhi, hm]
      have hva : v x < 65536 ^ s x := gm_val gx xx
      have hvb : 65536 ^ (m + 1) ≤ v y := by
        have := wc_low (B := 65536) b5 (by omega)
        rw [b6, hm] at this
        exact this
      have hp : 0 < 2 ^ b := Nat.pow_pos (by decide)
      have hbnd : wv 65536 g5 (hi + 1 + (m + 2)) < 65536 ^ (hi + 1) * wv 65536 g6 (m + 2) := by
        rw [show hi + 1 + (m + 2) = s x + 1 by omega, c2, z3, Nat.mul_left_comm]
        refine Nat.mul_lt_mul_of_pos_left (Nat.lt_of_lt_of_le hva ?_) hp
        rw [show s x = (hi + 1) + (m + 1) by omega, Nat.pow_add]
        exact Nat.mul_le_mul_left _ hvb
      obtain ⟨gq, gr, f1, f2, f3, f4, f5, f6, f7, f8⟩ := u_divdL (σ0 := σ0) (z := z) (s := va_up (va_up s 40 (s x + 1)) 41 (m + 2 + 1)) (m := m) (mv := nI b) (hi := nI hi) hQ d1 z1 g_fuel (hi + 1) (va_up (va_up lf 40 g5) 41 g6) (fuel_ge (by omega)) (by omega) (by rw [va_up_ne _ _ (by decide), va_up_ne _ _ (by decide)]; exact (h 35 h35).2.1) (by rw [va_up_ne _ _ (by decide), va_up_self]; exact c1) (va_up_self _ _ _) (by rw [va_up_ne _ _ (by decide), va_up_self]; exact hbnd)
      rw [va_up_ne _ _ (by decide), va_up_self] at f6
      rw [nI_pred] at f1
      rw [f1, LX8_divides_124, if_pos (by decide), rMo hQ, nI_1, show (35 : Int32) = nI 35 from rfl, u_trim hQ h35 (by rw [va_up_ne _ _ (by decide), va_up_self]; exact f2) (by omega), Option.bind_some, va_up_ne _ _ (show (35 : Nat) ≠ 40 by decide), va_up_self]
      -- the rest comes down
      obtain ⟨gd, w1, w2, w3, w4⟩ := u_downL (σ0 := σ0) (z := z) (s := va_up (va_up (va_up s 40 (s x + 1)) 41 (m + 2 + 1)) 35 (wt gq (hi + 1))) (n := m + 2) (b := b) hQ (by omega) k1 f3 g_fuel 0 (va_up (va_up (va_up (va_up lf 40 g5) 41 g6) 35 gq) 40 gr) (fuel_ge (by omega)) (by omega) (by rw [va_up_ne _ _ (by decide), va_up_ne _ _ (by decide), va_up_ne _ _ (by decide), va_up_ne _ _ (by decide)]; exact (h 36 h36).2.1) (va_up_self _ _ _)
      have e16 : (65536 : Nat) = 2 ^ b * 2 ^ (16 - b) := pow_split (a := b) (b := 16) (by omega)
      have hdn := wv_downB (a := gr) (e := gd) e16 (m + 2) (fun k hk => w4 k (by omega) hk)
      rw [f8 (by omega), Nat.zero_mod, Nat.zero_mul, Nat.add_zero (wv 65536 gr (m + 2))] at hdn
      have hrd : wv 65536 gr (m + 2) / 2 ^ b = wv 65536 gd (m + 2) := by
        rw [← hdn, Nat.add_comm, Nat.add_mul_div_left _ _ hp, Nat.div_eq_of_lt (Nat.mod_lt _ hp), Nat.zero_add]
      have hdu := div_uniq (Q := wv 65536 gq (hi + 1)) (V := wv 65536 g6 (m + 2)) (R := wv 65536 gr (m + 2)) (X := v x) (Y := v y) hp z3 (by rw [f6, show hi + 1 + (m + 2) = s x + 1 by omega]; exact c2) f5
      rw [hrd] at hdu
      refine ⟨_, va_up (va_up v 35 (v x / v y)) 36 (v x % v y), by rw [show (0 : Int32) = nI 0 from rfl]; exact w1, ⟨_, _, rfl, ?_⟩, by rw [va_up_ne _ _ (by decide), va_up_self], va_up_self _ _ _, fun i h1 h2 => by rw [va_up_ne _ _ h2, va_up_ne _ _ h1]⟩
      intro i hi'
      by_cases i36 : i = 36
      · subst i36
        rw [va_up_self, va_up_self, va_up_self, ← hdu.2]
        exact gm_trim (by omega) w2
      · rw [va_up_ne _ _ i36, va_up_ne _ _ i36, va_up_ne _ _ i36]
        by_cases i35 : i = 35
        · subst i35
          rw [va_up_self, va_up_self, va_up_ne _ _ (show (35 : Nat) ≠ 40 by decide), va_up_self, ← hdu.1]
          exact gm_trim (by omega) f2
        · rw [va_up_ne _ _ i35, va_up_ne _ _ i35]
          by_cases i40 : i = 40
          · subst i40
            rw [va_up_self, va_up_ne _ _ (by decide), va_up_self]
            exact ⟨by omega, f3, fun w => absurd rfl w.1⟩
          · rw [va_up_ne _ _ i40, va_up_ne _ _ i35]
            by_cases i41 : i = 41
            · subst i41
              rw [va_up_self, va_up_self]
              exact ⟨by omega, d1, fun w => absurd rfl w.2⟩
            · rw [va_up_ne _ _ i41, va_up_ne _ _ i41, va_up_ne _ _ i40, va_up_ne _ _ i40]
              exact h i hi'
end MI
