/-! the common divisor: the pass found, the pass done, the short end -/
section CM
variable {L : g_L} {σ0 : g_S} {s : Nat → Nat} {lf : Nat → Nat → Nat} {v : Nat → Nat} {cd dv : Nat} {a b c d : Int}
theorem p_findPass (hL : g_ok L) (hc : g_not L cd) (h : GV L s lf v) (h3 : 3 ≤ s 37) (hle : v 38 ≤ v 37) : ∃ a' b' c' d' XK YK, fX0_findPass (mkN L (cdS L σ0 cd dv a b c d) s lf) cd = some (if b' = 0 then 0 else 1, mkN L (cdS L σ0 cd dv a' b' c' d') s lf) ∧ LI (v 37) (v 38) a' b' c' d' XK YK := by
  have h7 : (37 : Nat) < 45 := by decide
  have h8 : (38 : Nat) < 45 := by decide
  obtain ⟨k, k1, k2, k3, k4⟩ := p_bits (σ0 := cdS L σ0 cd dv a b c d) hL h7 h
  have hr := (hL.2.2.2 37 h7).2
  have hs := (h 37 h7).1
  have hk : 63 ≤ k := by omega
  obtain ⟨lo, rfl⟩ : ∃ lo, k = lo + 62 := ⟨k - 62, by omega⟩
  have hP : 0 < 2 ^ lo := Nat.pow_pos (by decide)
  have x1 : v 37 / 2 ^ lo < 2 ^ 62 := Nat.div_lt_of_lt_mul (by rw [← Nat.pow_add]; exact k1.1)
  have x2 : v 38 / 2 ^ lo < 2 ^ 62 := Nat.lt_of_le_of_lt (Nat.div_le_div_right hle) x1
  have x0 : 0 < v 37 / 2 ^ lo := by
    apply Nat.div_pos _ hP
    rcases k1.2 with q | q
    · omega
    · exact Nat.le_trans (Nat.pow_le_pow_right (by decide) (by omega)) q
  obtain ⟨a', b', c', d', XK, YK, e1, e2⟩ := p_passL (σ0 := σ0) (s := s) (lf := lf) (dv := dv) hc (X := v 37) (Y := v 38) (x0 := v 37 / 2 ^ lo) (y0 := v 38 / 2 ^ lo) (P := 2 ^ lo) (X' := v 37 % 2 ^ lo) (Y' := v 38 % 2 ^ lo) hP (by rw [Nat.mul_comm]; exact (Nat.div_add_mod _ _).symm) (by rw [Nat.mul_comm]; exact (Nat.div_add_mod _ _).symm) (Nat.mod_lt _ hP) (Nat.mod_lt _ hP) x1 g_fuel 0 1 0 0 1 (v 37 / 2 ^ lo : Nat) (v 38 / 2 ^ lo : Nat) (v 37) (v 38) (fuel_ge (by omega)) (by omega) (LI_0 hle) (by omega) (by omega) (by omega) (by omega)
  refine ⟨a', b', c', d', XK, YK, ?_, e2⟩
  rw [← e1]
  unfold fX0_findPass
  simp only [cd_gr hc, cd_le hc, Option.bind_some, n_o hL h7, n_o hL h8, k4, g_let]
  rw [show (62 : Int32) = nI 62 from rfl, pk_sub (by omega), show lo + 62 - 62 = lo by omega]
  simp only [p_without hL h7 h (show lo < 100000 by omega) x1, p_without hL h8 h (show lo < 100000 by omega) x2, cd_gr hc, cd_le hc, Option.bind_some, n_o hL h7, n_o hL h8]
  rw [show (1 : Int64) = lZ 1 from rfl, show (0 : Int64) = lZ 0 from rfl]
  simp only [cd_pa hc, cd_pb hc, cd_pc hc, cd_pd hc, Option.bind_some]
  rw [lZ_N, lZ_N]
  rfl
theorem p_doL (hL : g_ok L) (hc : g_not L cd) {A B : Nat → Nat} {cnt : Nat} (bA : ∀ k, A k < 2147483648) (bB : ∀ k, B k < 2147483648) (hn1 : cnt ≤ L.2.2 37) (hn2 : cnt ≤ L.2.2 38) (hs8 : s 38 ≤ L.2.2 38) (hp : lpat a b c d) (pa : a ≤ 2147483647 ∧ -2147483647 ≤ a) (pb : b ≤ 2147483647 ∧ -2147483647 ≤ b) (pc : c ≤ 2147483647 ∧ -2147483647 ≤ c) (pd : d ≤ 2147483647 ∧ -2147483647 ≤ d) :
    ∀ (n k : Nat) (C1 C2 : Int) (lf : Nat → Nat → Nat), cnt - k < n → k ≤ cnt → (C1 ≤ 2147483648 ∧ -2147483648 ≤ C1) → (C2 ≤ 2147483648 ∧ -2147483648 ≤ C2) → (∀ j, lf 37 j < 2147483648) → (∀ j, lf 38 j < 2147483648) → (∀ j, k ≤ j → lf 37 j = A j) → (∀ j, k ≤ j → la s lf 38 j = B j) →
      ∃ g h o1 o2, LX0_doPass_16 n (mkN L (cdS L σ0 cd dv a b c d) s lf) cd (nI cnt) (lZ C1) (lZ C2) (nI k) = some (mkN L (cdS L σ0 cd dv a b c d) (va_up (va_up s 37 (wt g cnt)) 38 (wt h cnt)) (va_up (va_up lf 37 g) 38 h)) ∧ (∀ j, g j < 2147483648) ∧ (∀ j, h j < 2147483648) ∧ (∀ j, j < k → g j = lf 37 j) ∧ (∀ j, j < k → h j = lf 38 j) ∧
        (wv 2147483648 (fun j => g (k + j)) (cnt - k) : Int) + (2147483648 ^ (cnt - k) : Nat) * o1 = C1 + a * wv 2147483648 (fun j => A (k + j)) (cnt - k) + b * wv 2147483648 (fun j => B (k + j)) (cnt - k) ∧
        (wv 2147483648 (fun j => h (k + j)) (cnt - k) : Int) + (2147483648 ^ (cnt - k) : Nat) * o2 = C2 + c * wv 2147483648 (fun j => A (k + j)) (cnt - k) + d * wv 2147483648 (fun j => B (k + j)) (cnt - k) := by
  have h7 : (37 : Nat) < 45 := by decide
  have h8 : (38 : Nat) < 45 := by decide
  have hr := (hL.2.2.2 37 h7).2
  have ne : (37 : Nat) ≠ 38 := by decide
  intro n
  induction n with
  | zero => intro k C1 C2 lf h; omega
  | succ n ih =>
    intro k C1 C2 lf hn hk hC1 hC2 b7 b8 eA eB
    unfold LX0_doPass_16
    simp only [g_let]
    by_cases hkl : k = cnt
    · subst hkl
      refine ⟨lf 37, lf 38, C1, C2, ?_, b7, b8, fun _ _ => rfl, fun _ _ => rfl, ?_, ?_⟩
      · rw [if_pos (nI_le (Nat.le_refl k) (by omega))]
        simp only [cd_gr hc, cd_le hc, Option.bind_some, n_o hL h7, n_o hL h8, p_trim hL h7 hn1 (fun j _ => b7 j), p_trim hL h8 hn2 (fun j _ => b8 j)]
        rw [up_same, up_same]
      · rw [Nat.sub_self, wv_0, wv_0, wv_0]; simp
      · rw [Nat.sub_self, wv_0, wv_0, wv_0]; simp
    · have b1 := bA k
      have b2 := bB k
      have r1 := l_rng (a := a) (b := b) (P := 2147483647) (X := A k) (Y := B k) (m := 2147483647) (by omega) (by omega) (by omega) (by omega) (by omega) (by rcases hp with q | q; exact Or.inl ⟨q.1, q.2.1⟩; exact Or.inr ⟨q.1, q.2.1⟩) pa pb
      have r2 := l_rng (a := c) (b := d) (P := 2147483647) (X := A k) (Y := B k) (m := 2147483647) (by omega) (by omega) (by omega) (by omega) (by omega) (by rcases hp with q | q; exact Or.inr ⟨q.2.2.1, q.2.2.2⟩; exact Or.inl ⟨q.2.2.1, q.2.2.2⟩) pc pd
      rw [if_neg (nI_ge (by omega) (by omega))]
      simp only [cd_gr hc, cd_le hc, cd_a hc, cd_b hc, cd_c hc, cd_d hc, Option.bind_some, n_row hL h7, n_row hL h8, n_o hL h8, n_get hL h7 (show k < L.2.2 37 by omega), p_limbAt hL h8 hs8 (show k < 2147483648 by omega), eA k (Nat.le_refl k), eB k (Nat.le_refl k)]
      rw [ji_l b1, ji_l b2, lZ_N, lZ_N]
      simp only [lZ_mul, lZ_add]
      generalize hT1 : C1 + (a * (A k : Int) + b * (B k : Int)) = T1
      generalize hT2 : C2 + (c * (A k : Int) + d * (B k : Int)) = T2
      rw [lZ_and, lZ_and, lZ_shr (by omega) (by omega), lZ_shr (by omega) (by omega), jl_i, jl_i, nI_1]
      simp only [cd_gr hc, cd_le hc, Option.bind_some, n_row hL h7, n_row hL h8, n_set hL h7 (show k < L.2.2 37 by omega), n_set hL h8 (show k < L.2.2 38 by omega)]
      have d1 : (T1 % 2147483648).toNat < 2147483648 := by omega
      have d2 : (T2 % 2147483648).toNat < 2147483648 := by omega
      rw [va_up_ne _ _ (show (38 : Nat) ≠ 37 by decide)]
      obtain ⟨g, h, o1, o2, e1, e2, e3, e4, e5, e6, e7⟩ := ih (k + 1) (T1 / 2147483648) (T2 / 2147483648) (va_up (va_up lf 37 (va_up (lf 37) k (T1 % 2147483648).toNat)) 38 (va_up (lf 38) k (T2 % 2147483648).toNat)) (by omega) (by omega) (by omega) (by omega) (by rw [va_up_ne _ _ ne, va_up_self]; exact up_lt b7 d1) (by rw [va_up_self]; exact up_lt b8 d2) (fun j hj => by rw [va_up_ne _ _ ne, va_up_self, va_up_ne _ _ (by omega)]; exact eA j (by omega)) (fun j hj => by
        have := eB j (by omega)
        unfold la at this ⊢
        rw [va_up_self, va_up_ne _ _ (show j ≠ k by omega)]
        exact this)
      refine ⟨g, h, o1, o2, ?_, e2, e3, fun j hj => ?_, fun j hj => ?_, ?_, ?_⟩
      · rw [e1]
        congr 2
        funext i
        by_cases i8 : i = 38
        · rw [i8, va_up_self, va_up_self]
        · rw [va_up_ne _ _ i8, va_up_ne _ _ i8]
          by_cases i7 : i = 37
          · rw [i7, va_up_self, va_up_self]
          · rw [va_up_ne _ _ i7, va_up_ne _ _ i8, va_up_ne _ _ i7, va_up_ne _ _ i7]
      · rw [e4 j (by omega), va_up_ne _ _ ne, va_up_self, va_up_ne _ _ (by omega)]
      · rw [e5 j (by omega), va_up_self, va_up_ne _ _ (by omega)]
      · have f := e4 k (by omega)
        rw [va_up_ne _ _ ne, va_up_self, va_up_self] at f
        rw [show cnt - k = (cnt - (k + 1)) + 1 by omega, wv_step, wv_step, wv_step, f, Nat.pow_succ, Nat.mul_comm (2147483648 ^ _) 2147483648]
        generalize 2147483648 ^ (cnt - (k + 1)) = P at *
        generalize wv 2147483648 (fun j => g (k + 1 + j)) (cnt - (k + 1)) = W at *
        generalize wv 2147483648 (fun j => A (k + 1 + j)) (cnt - (k + 1)) = WA at *
        generalize wv 2147483648 (fun j => B (k + 1 + j)) (cnt - (k + 1)) = WB at *
        have g1 : ((T1 % 2147483648).toNat : Int) = T1 - 2147483648 * (T1 / 2147483648) := by omega
        simp only [Int.natCast_add, Int.natCast_mul, g1]
        generalize T1 / 2147483648 = Q at *
        grind
      · have f := e5 k (by omega)
        rw [va_up_self, va_up_self] at f
        rw [show cnt - k = (cnt - (k + 1)) + 1 by omega, wv_step, wv_step, wv_step, f, Nat.pow_succ, Nat.mul_comm (2147483648 ^ _) 2147483648]
        generalize 2147483648 ^ (cnt - (k + 1)) = P at *
        generalize wv 2147483648 (fun j => h (k + 1 + j)) (cnt - (k + 1)) = W at *
        generalize wv 2147483648 (fun j => A (k + 1 + j)) (cnt - (k + 1)) = WA at *
        generalize wv 2147483648 (fun j => B (k + 1 + j)) (cnt - (k + 1)) = WB at *
        have g1 : ((T2 % 2147483648).toNat : Int) = T2 - 2147483648 * (T2 / 2147483648) := by omega
        simp only [Int.natCast_add, Int.natCast_mul, g1]
        generalize T2 / 2147483648 = Q at *
        grind
theorem zero_o {W P K : Nat} {o : Int} (h : (W : Int) + (P : Nat) * o = K) (hW : W < P) (hK : K < P) : W = K := by
  have : o = 0 := by
    rcases Int.lt_trichotomy o 0 with q | q | q
    · have : (P : Int) * o ≤ P * (-1) := Int.mul_le_mul_of_nonneg_left (by omega) (by omega)
      omega
    · exact q
    · have : (P : Int) * 1 ≤ P * o := Int.mul_le_mul_of_nonneg_left (by omega) (by omega)
      omega
  rw [this] at h
  omega
theorem q_doPass (hL : g_ok L) (hc : g_not L cd) (h : GV L s lf v) {XK YK : Nat} (hI : LI (v 37) (v 38) a b c d XK YK) (hle : v 38 ≤ v 37) (hroom : s 37 ≤ L.2.2 38) : ∃ s' lf', fX0_doPass (mkN L (cdS L σ0 cd dv a b c d) s lf) cd = some (mkN L (cdS L σ0 cd dv a b c d) s' lf') ∧ GV L s' lf' (va_up (va_up v 37 XK) 38 YK) := by
  have h7 : (37 : Nat) < 45 := by decide
  have h8 : (38 : Nat) < 45 := by decide
  have hr := (hL.2.2.2 37 h7).2
  obtain ⟨p1, ⟨pa, pb, pc, pd⟩, p2, p3, p4, p5, p6, p7⟩ := hI
  obtain ⟨a1, a2, a3, a4⟩ := h 37 h7
  obtain ⟨b1, b2, b3, b4⟩ := h 38 h8
  have hsb : s 38 ≤ s 37 := gw_size (h 38 h8) (Nat.lt_of_le_of_lt hle (gw_val (h 37 h7)))
  unfold fX0_doPass
  simp only [cd_gr hc, n_size hL h7, Option.bind_some]
  rw [show (0 : Int64) = lZ 0 from rfl, show (0 : Int32) = nI 0 from rfl]
  obtain ⟨g, h', o1, o2, e1, e2, e3, e4, e5, e6, e7⟩ := p_doL (σ0 := σ0) (dv := dv) (s := s) hL hc (A := lf 37) (B := la s lf 38) (cnt := s 37) a2 (la_lt b2) a1 hroom b1 p1 pa pb pc pd g_fuel 0 0 0 lf (fuel_ge (by omega)) (by omega) (by omega) (by omega) a2 b2 (fun _ _ => rfl) (fun _ _ => rfl)
  refine ⟨_, _, e1, ?_⟩
  have q := (h.up (gw_trim (i := 37) (c := s 37) a1 e2)).up (gw_trim (i := 38) (c := s 37) hroom e3)
  simp only [Nat.zero_add] at e6 e7
  rw [Nat.sub_zero] at e6 e7
  have hW : wv 2147483648 (fun j => la s lf 38 j) (s 37) = v 38 := by rw [la_wv hsb]; exact b4
  have hV : wv 2147483648 (fun j => lf 37 j) (s 37) = v 37 := a4
  rw [hW, hV, Int.zero_add, ← p2] at e6
  rw [hW, hV, Int.zero_add, ← p3] at e7
  have lt := gw_val (h 37 h7)
  have f1 := zero_o e6 (wv_lt (fun k _ => e2 k)) (by omega)
  have f2 := zero_o e7 (wv_lt (fun k _ => e3 k)) (by omega)
  rw [show wv 2147483648 g (s 37) = XK from f1, show wv 2147483648 h' (s 37) = YK from f2] at q
  exact q
end CM
