/-! THE DESK'S DIVISION -/
theorem nI_s1 {a : Nat} (h : 1 ≤ a) : nI a - 1 = nI (a - 1) := pk_sub h
theorem nI_s2 {a : Nat} (h : 2 ≤ a) : nI a - 2 = nI (a - 2) := pk_sub h
theorem jl_gt {a b : Nat} (ha : a < 9223372036854775808) (hb : b < 9223372036854775808) : 0 < lg_cmp (lN a) (lN b) ↔ b < a := by
  rw [lg_cmp_gt, pk_lLT hb ha]
theorem jl_ge {a b : Nat} (ha : a < 9223372036854775808) (hb : b < 9223372036854775808) : 0 ≤ lg_cmp (lN a) (lN b) ↔ b ≤ a := by
  rw [lg_cmp_ge, pk_lLE hb ha]
def dvOK (L : g_L) (σ0 : g_S) (dv : Nat) : Prop := g_not L dv ∧ σ0.1 dv = some (.inr (1, [.ref (L.1 34), .ref (L.1 35), .ref (L.1 36)]))
section DV
variable {L : g_L} {σ0 : g_S} {s : Nat → Nat} {lf : Nat → Nat → Nat} {v : Nat → Nat} {dv : Nat}
theorem dv_o (h : dvOK L σ0 dv) : g_o (mkN L σ0 s lf) 1 dv = some [.ref (L.1 34), .ref (L.1 35), .ref (L.1 36)] := g_o_of (by rw [mkN_x h.1]; exact h.2)
theorem dv_q (h : dvOK L σ0 dv) : g_fr (mkN L σ0 s lf) 1 dv 0 = some (L.1 34) := by unfold g_fr; rw [dv_o h]; rfl
theorem dv_r (h : dvOK L σ0 dv) : g_fr (mkN L σ0 s lf) 1 dv 1 = some (L.1 35) := by unfold g_fr; rw [dv_o h]; rfl
theorem dv_c (h : dvOK L σ0 dv) : g_fr (mkN L σ0 s lf) 1 dv 2 = some (L.1 36) := by unfold g_fr; rw [dv_o h]; rfl
theorem p_guessL {σ : g_S} {v1 v0 u0 N R V P V' R' : Nat} (hR : R = (N * 2147483648 + u0) * P + R') (hR' : R' < P) (hV : V = (v1 * 2147483648 + v0) * P + V') (hV' : V' < P) (bv0 : v0 < 2147483648) (bu0 : u0 < 2147483648) (bv1 : v1 < 2147483648) (hb : 2147483648 ≤ 2 * v1) (hlt : R < 2147483648 * V) (hN : N < (v1 + 1) * 2147483648) :
    ∀ (n t d l : Nat), 2 - t < n → t ≤ 2 → d * v1 + l = N → R < (d + 1) * V → (d + t) * V < R + 3 * V → d + t ≤ 2147483648 + 1 → ∃ d', LX1_guess_117 n σ (lN v1) (lN d) (lN l) (lN v0) (lN u0) (nI t) = some (nI d', σ) ∧ d' < 2147483648 ∧ R < (d' + 1) * V ∧ d' * V < R + V := by
  intro n
  induction n with
  | zero => intro t d l h; omega
  | succ n ih =>
    intro t d l hn ht e h1 h2 h3
    have em : (2147483647 : Int64) = lN 2147483647 := rfl
    unfold LX1_guess_117 BX1_guess_179 BX1_guess_161 g_let
    have hl : l ≤ N := by omega
    have dec : ∀ (hd1 : 1 ≤ d) (hRd : R < d * V), t < 2 → ∃ d', LX1_guess_117 n σ (lN v1) (lN d - 1) (lN l + lN v1) (lN v0) (lN u0) (nI t + 1) = some (nI d', σ) ∧ d' < 2147483648 ∧ R < (d' + 1) * V ∧ d' * V < R + V := by
      intro hd1 hRd ht2
      rw [show (1 : Int64) = lN 1 from rfl, lN_sub hd1, lN_add, nI_1]
      refine ih (t + 1) (d - 1) (l + v1) (by omega) (by omega) ?_ (by rw [show d - 1 + 1 = d by omega]; exact hRd) (by rw [show d - 1 + (t + 1) = d + t by omega]; exact h2) (by omega)
      obtain ⟨q, rfl⟩ : ∃ q, d = q + 1 := ⟨d - 1, by omega⟩
      rw [Nat.add_mul, Nat.one_mul] at e
      rw [Nat.add_sub_cancel]
      omega
    by_cases ht2 : t = 2
    · rw [if_pos (by rw [ht2]; decide), jl_i]
      refine ⟨d, rfl, by omega, h1, ?_⟩
      rw [ht2, Nat.add_mul] at h2
      omega
    · rw [if_neg (by rw [show (2 : Int32) = nI 2 from rfl]; exact nI_ge (by omega) (by omega)), em]
      by_cases hlm : 2147483647 < l
      · rw [if_pos ((jl_gt (by omega) (by omega)).mpr hlm), jl_i]
        have hdb : d < 2147483648 := by
          rcases Nat.lt_or_ge d 2147483648 with q | q
          · exact q
          · have : 2147483648 * v1 ≤ d * v1 := Nat.mul_le_mul_right _ q
            omega
        have hm := mul31 hdb bv0
        exact ⟨d, rfl, hdb, h1, kd_hi hR hV hV' e (by omega) (by omega) (by decide) (by omega)⟩
      · rw [if_neg (fun q => hlm ((jl_gt (by omega) (by omega)).mp q))]
        by_cases hdm : 2147483647 < d
        · rw [if_pos ((jl_gt (by omega) (by omega)).mpr hdm)]
          refine dec (by omega) ?_ (by omega)
          exact Nat.lt_of_lt_of_le hlt (Nat.mul_le_mul_right _ (by omega))
        · have hm := mul31 (show d < 2147483648 by omega) bv0
          have es : g_lshl (lN l) 31 = lN (l * 2 ^ 31) := jl_shl l (k := 31) (by decide)
          rw [if_neg (fun q => hdm ((jl_gt (by omega) (by omega)).mp q)), lN_mul, es, jl_or (k := 31) bu0 (by omega)]
          have e31 : (2 : Nat) ^ 31 = 2147483648 := rfl
          by_cases hts : l * 2 ^ 31 + u0 < d * v0
          · rw [if_pos ((jl_gt (by omega) (by omega)).mpr hts)]
            refine dec ?_ (kd_lo hR hR' hV e (by omega)) (by omega)
            rcases Nat.eq_zero_or_pos d with z | z
            · rw [z, Nat.zero_mul] at hts; omega
            · exact z
          · rw [if_neg (fun q => hts ((jl_gt (by omega) (by omega)).mp q)), jl_i]
            exact ⟨d, rfl, by omega, h1, kd_hi hR hV hV' e (by omega) (by omega) (by decide) (by omega)⟩
theorem p_guess (hL : g_ok L) (hD : dvOK L σ0 dv) {t m : Nat} (hs : s 36 = m + 2) (hm : m + 2 ≤ L.2.2 36) (ht : t + (m + 2) < L.2.2 35) (bV : ∀ k, lf 36 k < 2147483648) (bR : ∀ k, lf 35 k < 2147483648) (hb : 2147483648 ≤ 2 * lf 36 (m + 1)) (hlt : wv 2147483648 (fun j => lf 35 (t + j)) (m + 3) < 2147483648 * wv 2147483648 (lf 36) (m + 2)) :
    ∃ d, fX1_guess (mkN L σ0 s lf) dv (nI t) = some (nI d, mkN L σ0 s lf) ∧ d < 2147483648 ∧ wv 2147483648 (fun j => lf 35 (t + j)) (m + 3) < (d + 1) * wv 2147483648 (lf 36) (m + 2) ∧ d * wv 2147483648 (lf 36) (m + 2) < wv 2147483648 (fun j => lf 35 (t + j)) (m + 3) + wv 2147483648 (lf 36) (m + 2) := by
  have hr5 := (hL.2.2.2 35 (by decide)).2
  have hr6 := (hL.2.2.2 36 (by decide)).2
  have h5 : (35 : Nat) < 45 := by decide
  have h6 : (36 : Nat) < 45 := by decide
  have b1 := bV (m + 1)
  have b0 := bV m
  have c2 := bR (t + (m + 2))
  have c1 := bR (t + (m + 1))
  have c0 := bR (t + m)
  have eV : wv 2147483648 (lf 36) (m + 2) = (lf 36 (m + 1) * 2147483648 + lf 36 m) * 2147483648 ^ m + wv 2147483648 (lf 36) m := by
    rw [wv_s, wv_s, Nat.pow_succ, Nat.add_mul]
    have : lf 36 (m + 1) * (2147483648 ^ m * 2147483648) = lf 36 (m + 1) * 2147483648 * 2147483648 ^ m := by ac_rfl
    omega
  have eR : wv 2147483648 (fun j => lf 35 (t + j)) (m + 3) = ((lf 35 (t + (m + 2)) * 2147483648 + lf 35 (t + (m + 1))) * 2147483648 + lf 35 (t + m)) * 2147483648 ^ m + wv 2147483648 (fun j => lf 35 (t + j)) m := by
    have p1 : 2147483648 ^ (m + 1) = 2147483648 ^ m * 2147483648 := Nat.pow_succ _ _
    have p2 : 2147483648 ^ (m + 2) = 2147483648 ^ m * 2147483648 * 2147483648 := by rw [Nat.pow_succ, p1]
    rw [wv_s, wv_s, wv_s, p2, p1, Nat.add_mul, Nat.add_mul, Nat.add_mul]
    have e1 : lf 35 (t + (m + 2)) * (2147483648 ^ m * 2147483648 * 2147483648) = lf 35 (t + (m + 2)) * 2147483648 * 2147483648 * 2147483648 ^ m := by ac_rfl
    have e2 : lf 35 (t + (m + 1)) * (2147483648 ^ m * 2147483648) = lf 35 (t + (m + 1)) * 2147483648 * 2147483648 ^ m := by ac_rfl
    omega
  have hV' : wv 2147483648 (lf 36) m < 2147483648 ^ m := wv_lt (fun k _ => bV k)
  have hR' : wv 2147483648 (fun j => lf 35 (t + j)) m < 2147483648 ^ m := wv_lt (fun k _ => bR _)
  obtain ⟨N, hNe⟩ : ∃ N, N = lf 35 (t + (m + 2)) * 2147483648 + lf 35 (t + (m + 1)) := ⟨_, rfl⟩
  have hv1 : 0 < lf 36 (m + 1) := by omega
  rw [← hNe] at eR
  have hN := kd_N eR eV hV' b0 hlt
  have hq0 : N / lf 36 (m + 1) * lf 36 (m + 1) ≤ N := Nat.div_mul_le_self _ _
  have hq2 := kd_q hq0 hN hb
  have hmod : N - N / lf 36 (m + 1) * lf 36 (m + 1) = N % lf 36 (m + 1) := by rw [Nat.mod_eq_sub_div_mul]
  have es : g_lshl (lN (lf 35 (t + (m + 2)))) 31 = lN (lf 35 (t + (m + 2)) * 2 ^ 31) := jl_shl _ (k := 31) (by decide)
  have e31 : (2 : Nat) ^ 31 = 2147483648 := rfl
  have hor : lN (lf 35 (t + (m + 2)) * 2 ^ 31) ||| lN (lf 35 (t + (m + 1))) = lN N := by
    rw [jl_or (k := 31) c1 (by omega), hNe]
  obtain ⟨d, g1, g2, g3, g4⟩ := p_guessL (σ := mkN L σ0 s lf) eR hR' eV hV' b0 c0 b1 hb hlt hN g_fuel 0 (N / lf 36 (m + 1)) (N % lf 36 (m + 1)) (fuel_ge (by decide)) (by decide) (by rw [Nat.mul_comm]; exact Nat.div_add_mod _ _)
    (kd_init eR hR' eV c0 (by rw [Nat.add_mul, Nat.one_mul]; have := Nat.mod_lt N hv1; have := Nat.div_add_mod N (lf 36 (m + 1)); rw [Nat.mul_comm] at this; omega)) (by rw [Nat.add_zero]; exact kd_two eR eV hV' b0 hq0 hq2 hb (by omega)) (by omega)
  refine ⟨d, ?_, g2, g3, g4⟩
  unfold fX1_guess g_let
  simp only [dv_c hD, dv_r hD, n_size hL h6, n_row hL h6, n_row hL h5, Option.bind_some, hs, nI_add]
  rw [nI_s1 (by omega), show m + 2 - 1 = m + 1 from rfl, n_get hL h6 (by omega)]
  simp only [Option.bind_some]
  have hne : ¬ lN (lf 36 (m + 1)) = 0 := by
    rw [show (0 : Int64) = lN 0 from rfl, pk_lEQ (by omega) (by omega)]
    omega
  rw [ji_l b1, if_neg (fun q => hne ((lg_cmp_eq _ _).mp q)), n_get hL h5 (by omega), nI_s1 (by omega), show t + (m + 2) - 1 = t + (m + 1) by omega, n_get hL h5 (by omega)]
  simp only [Option.bind_some]
  rw [ji_l c2, ji_l c1, es, hor, g_if_pos hne, pk_lDiv (by omega) hv1 (by omega), lN_mul, lN_sub hq0, hmod, nI_s2 (by omega), show m + 2 - 2 = m from rfl, n_get hL h6 (by omega), nI_s2 (by omega), show t + (m + 2) - 2 = t + m by omega]
  simp only [Option.bind_some]
  rw [n_get hL h5 (by omega)]
  simp only [Option.bind_some]
  rw [ji_l b0, ji_l c0, ← nI_0]
  exact g1
end DV
