/-! taking away, giving back, and the whole division -/
theorem kd_a1 {P o u dV W G R V : Nat} (eR : R = W + u * P) (e4 : G + dV = W + P * o) (hG : G < P) (hVP : V ≤ P) (q1 : dV ≤ R) (q2 : R - dV < V) : ¬ u < o ∧ G < V ∧ dV + G = R := by
  rw [Nat.mul_comm u] at eR
  have ho : o = u := by
    rcases Nat.lt_trichotomy o u with w | w | w
    · have : P * (o + 1) ≤ P * u := Nat.mul_le_mul_left _ w
      rw [Nat.mul_add, Nat.mul_one] at this
      omega
    · exact w
    · have : P * (u + 1) ≤ P * o := Nat.mul_le_mul_left _ w
      rw [Nat.mul_add, Nat.mul_one] at this
      omega
  subst ho
  omega
theorem kd_a2 {P o oo u dV dV1 W G GG R V : Nat} (eR : R = W + u * P) (e4 : G + dV = W + P * o) (hG : G < P) (hVP : V < P) (hdV : dV = dV1 + V) (q1 : R < dV) (q2 : dV1 ≤ R) (q3 : R - dV1 < V) (f4 : GG + P * oo = G + V) (hGG : GG < P) : u < o ∧ GG < V ∧ dV1 + GG = R := by
  rw [Nat.mul_comm u] at eR
  have ho : o = u + 1 := by
    rcases Nat.lt_trichotomy o (u + 1) with w | w | w
    · have : P * o ≤ P * u := Nat.mul_le_mul_left _ (by omega)
      omega
    · exact w
    · have : P * (u + 2) ≤ P * o := Nat.mul_le_mul_left _ w
      rw [Nat.mul_add] at this
      omega
  subst ho
  rw [Nat.mul_add, Nat.mul_one] at e4
  have hoo : oo = 1 := by
    rcases Nat.lt_trichotomy oo 1 with w | w | w
    · have hz : oo = 0 := by omega
      rw [hz, Nat.mul_zero] at f4
      omega
    · exact w
    · have : P * 2 ≤ P * oo := Nat.mul_le_mul_left _ w
      omega
  subst hoo
  omega
section DW
variable {L : g_L} {σ0 : g_S} {s : Nat → Nat} {lf : Nat → Nat → Nat} {v : Nat → Nat} {dv : Nat}
theorem p_takeL (hL : g_ok L) (hD : dvOK L σ0 dv) {t d n : Nat} (hs : s 36 = n) (hn6 : n ≤ L.2.2 36) (hn5 : t + n < L.2.2 35) (hd : d < 2147483648) {A : Nat → Nat} (bA : ∀ k, A k < 2147483648) {u : Nat} (bu : u < 2147483648) :
    ∀ (f k c : Nat) (lf : Nat → Nat → Nat), n - k < f → k ≤ n → c ≤ 2147483648 → (∀ j, lf 35 j < 2147483648) → (∀ j, lf 36 j = A j) → lf 35 (t + n) = u → ∃ g o, LX1_takeAway_5 f (mkN L σ0 s lf) dv (nI d) (nI t) (lN c) (nI k) = some (if u < o then 1 else 0, mkN L σ0 s (va_up lf 35 g)) ∧ (∀ j, g j < 2147483648) ∧ (∀ j, j < t + k ∨ t + n ≤ j → g j = lf 35 j) ∧ wv 2147483648 (fun j => g (t + k + j)) (n - k) + c + d * wv 2147483648 (fun j => A (k + j)) (n - k) = wv 2147483648 (fun j => lf 35 (t + k + j)) (n - k) + 2147483648 ^ (n - k) * o := by
  have h5 : (35 : Nat) < 45 := by decide
  have h6 : (36 : Nat) < 45 := by decide
  have hr5 := (hL.2.2.2 35 h5).2
  have hr6 := (hL.2.2.2 36 h6).2
  intro f
  induction f with
  | zero => intro k c lf h; omega
  | succ f ih =>
    intro k c lf hf hk hc bl eA eu
    unfold LX1_takeAway_5 BX1_takeAway_118 g_let
    simp only [dv_c hD, dv_r hD, n_size hL h6, n_row hL h6, n_row hL h5, Option.bind_some, hs, nI_add]
    by_cases hkn : k = n
    · refine ⟨lf 35, c, ?_, bl, fun j _ => rfl, by rw [hkn]; simp [wv_0]⟩
      rw [if_pos (nI_le (by omega) (by omega)), n_get hL h5 (by omega), eu]
      simp only [Option.bind_some]
      rw [ji_l bu, up_same]
      by_cases huc : u < c
      · rw [if_neg (fun q => by have := (jl_ge (by omega) (by omega)).mp q; omega), if_pos huc]
        exact g_if_pos (by simp)
      · rw [if_pos ((jl_ge (by omega) (by omega)).mpr (by omega)), if_neg huc]
        exact g_if_pos (by simp)
    · have b1 := bA k
      have b3 := bl (t + k)
      have hm := mul31 hd b1
      rw [if_neg (nI_ge (by omega) (by omega)), n_get hL h6 (by omega), eA]
      simp only [Option.bind_some, n_get hL h5 (show t + k < L.2.2 35 by omega)]
      rw [ji_l hd, ji_l b1, lN_mul, lN_add]
      obtain ⟨z, hz⟩ : ∃ z, z = c + d * A k := ⟨_, rfl⟩
      rw [← hz, jl_and (by omega), jl_ushr (by omega), jl_i]
      obtain ⟨d1, d2⟩ := ja_dif (x := lf 35 (t + k)) (y := z % 2147483648) (by omega) (by omega)
      rw [d1, d2, ji_l (by split <;> omega), lN_add, nI_1]
      simp only [n_set hL h5 (show t + k < L.2.2 35 by omega), Option.bind_some]
      obtain ⟨g, o, e1, e2, e3, e4⟩ := ih (k + 1) (z / 2147483648 + if lf 35 (t + k) < z % 2147483648 then 1 else 0) (va_up lf 35 (va_up (lf 35) (t + k) ((lf 35 (t + k) + 2147483648 - z % 2147483648) % 2147483648))) (by omega) (by omega) (by split <;> omega) (by rw [va_up_self]; exact up_lt bl (by omega)) (fun q => by rw [va_up_ne _ _ (by decide)]; exact eA q) (by rw [va_up_self, va_up_ne _ _ (by omega)]; exact eu)
      rw [up_up] at e1
      refine ⟨g, o, e1, e2, fun j hj => ?_, ?_⟩
      · rw [e3 j (by omega), va_up_self, va_up_ne _ _ (by omega)]
      · have e5 := e3 (t + k) (by omega)
        rw [va_up_self, va_up_self] at e5
        rw [va_up_self, show t + (k + 1) = t + k + 1 from rfl, wv_congr (g := fun j => va_up (lf 35) (t + k) ((lf 35 (t + k) + 2147483648 - z % 2147483648) % 2147483648) (t + k + 1 + j)) (h := fun j => lf 35 (t + k + 1 + j)) (fun j _ => va_up_ne _ _ (by omega))] at e4
        rw [show n - k = (n - (k + 1)) + 1 by omega, wv_step, wv_step, wv_step, e5, Nat.pow_succ, Nat.mul_comm (2147483648 ^ _) 2147483648, Nat.mul_assoc, Nat.mul_add d, Nat.mul_left_comm d 2147483648]
        generalize 2147483648 ^ (n - (k + 1)) * o = P at *
        generalize d * wv 2147483648 (fun j => A (k + 1 + j)) (n - (k + 1)) = P2 at *
        generalize d * A k = P3 at *
        split at e4 <;> omega
theorem p_giveL (hL : g_ok L) (hD : dvOK L σ0 dv) {t n : Nat} (hs : s 36 = n) (hn6 : n ≤ L.2.2 36) (hn5 : t + n < L.2.2 35) {A : Nat → Nat} (bA : ∀ k, A k < 2147483648) :
    ∀ (f k c : Nat) (lf : Nat → Nat → Nat), n - k < f → k ≤ n → c ≤ 1 → (∀ j, lf 35 j < 2147483648) → (∀ j, lf 36 j = A j) → ∃ g o, LX1_giveBack_4 f (mkN L σ0 s lf) dv (nI t) (nI c) (nI k) = some (mkN L σ0 s (va_up lf 35 g)) ∧ (∀ j, g j < 2147483648) ∧ (∀ j, j < t + k ∨ t + n ≤ j → g j = lf 35 j) ∧ wv 2147483648 (fun j => g (t + k + j)) (n - k) + 2147483648 ^ (n - k) * o = c + wv 2147483648 (fun j => lf 35 (t + k + j)) (n - k) + wv 2147483648 (fun j => A (k + j)) (n - k) := by
  have h5 : (35 : Nat) < 45 := by decide
  have h6 : (36 : Nat) < 45 := by decide
  have hr5 := (hL.2.2.2 35 h5).2
  have hr6 := (hL.2.2.2 36 h6).2
  intro f
  induction f with
  | zero => intro k c lf h; omega
  | succ f ih =>
    intro k c lf hf hk hc bl eA
    unfold LX1_giveBack_4 g_let
    simp only [dv_c hD, dv_r hD, n_size hL h6, n_row hL h6, n_row hL h5, Option.bind_some, hs, nI_add]
    by_cases hkn : k = n
    · refine ⟨lf 35, c, ?_, bl, fun j _ => rfl, by rw [hkn]; simp [wv_0]⟩
      rw [if_pos (nI_le (by omega) (by omega)), up_same]
    · have b1 := bA k
      have b3 := bl (t + k)
      rw [if_neg (nI_ge (by omega) (by omega)), n_get hL h5 (by omega)]
      simp only [Option.bind_some, n_get hL h6 (show k < L.2.2 36 by omega), eA]
      rw [nI_add, nI_add]
      obtain ⟨z, hz⟩ : ∃ z, z = lf 35 (t + k) + A k + c := ⟨_, rfl⟩
      rw [← hz, ja_and (by omega), ja_ushr (by omega), nI_1]
      simp only [n_set hL h5 (show t + k < L.2.2 35 by omega), Option.bind_some]
      obtain ⟨g, o, e1, e2, e3, e4⟩ := ih (k + 1) (z / 2147483648) (va_up lf 35 (va_up (lf 35) (t + k) (z % 2147483648))) (by omega) (by omega) (by omega) (by rw [va_up_self]; exact up_lt bl (by omega)) (fun q => by rw [va_up_ne _ _ (by decide)]; exact eA q)
      rw [up_up] at e1
      refine ⟨g, o, e1, e2, fun j hj => ?_, ?_⟩
      · rw [e3 j (by omega), va_up_self, va_up_ne _ _ (by omega)]
      · have e5 := e3 (t + k) (by omega)
        rw [va_up_self, va_up_self] at e5
        rw [va_up_self, show t + (k + 1) = t + k + 1 from rfl, wv_congr (g := fun j => va_up (lf 35) (t + k) (z % 2147483648) (t + k + 1 + j)) (h := fun j => lf 35 (t + k + 1 + j)) (fun j _ => va_up_ne _ _ (by omega))] at e4
        rw [show n - k = (n - (k + 1)) + 1 by omega, wv_step, wv_step, wv_step, e5, Nat.pow_succ, Nat.mul_comm (2147483648 ^ _) 2147483648, Nat.mul_assoc]
        generalize 2147483648 ^ (n - (k + 1)) * o = P at *
        omega
theorem fun_z (A : Nat → Nat) : (fun j => A (0 + j)) = A := funext fun j => by rw [Nat.zero_add]
theorem p_take (hL : g_ok L) (hD : dvOK L σ0 dv) {t d n : Nat} (hs : s 36 = n) (hn6 : n ≤ L.2.2 36) (hn5 : t + n < L.2.2 35) (hd : d < 2147483648) (bA : ∀ k, lf 36 k < 2147483648) (bl : ∀ j, lf 35 j < 2147483648) : ∃ g o, fX1_takeAway (mkN L σ0 s lf) dv (nI d) (nI t) = some (if lf 35 (t + n) < o then 1 else 0, mkN L σ0 s (va_up lf 35 g)) ∧ (∀ j, g j < 2147483648) ∧ (∀ j, j < t ∨ t + n ≤ j → g j = lf 35 j) ∧ wv 2147483648 (fun j => g (t + j)) n + d * wv 2147483648 (lf 36) n = wv 2147483648 (fun j => lf 35 (t + j)) n + 2147483648 ^ n * o := by
  have hr := (hL.2.2.2 36 (by decide)).2
  obtain ⟨g, o, e1, e2, e3, e4⟩ := p_takeL (σ0 := σ0) (n := n) (t := t) hL hD hs hn6 hn5 hd bA (bl (t + n)) g_fuel 0 0 lf (fuel_ge (by omega)) (Nat.zero_le _) (Nat.zero_le _) bl (fun _ => rfl) rfl
  rw [Nat.sub_zero, fun_z, Nat.add_zero t, Nat.add_zero (wv _ _ _)] at e4
  refine ⟨g, o, ?_, e2, fun j hj => e3 j (by omega), e4⟩
  unfold fX1_takeAway
  rw [show (0 : Int64) = lN 0 from rfl, ← nI_0]
  exact e1
theorem p_give (hL : g_ok L) (hD : dvOK L σ0 dv) {t n : Nat} (hs : s 36 = n) (hn6 : n ≤ L.2.2 36) (hn5 : t + n < L.2.2 35) (bA : ∀ k, lf 36 k < 2147483648) (bl : ∀ j, lf 35 j < 2147483648) : ∃ g o, fX1_giveBack (mkN L σ0 s lf) dv (nI t) = some (mkN L σ0 s (va_up lf 35 g)) ∧ (∀ j, g j < 2147483648) ∧ (∀ j, j < t ∨ t + n ≤ j → g j = lf 35 j) ∧ wv 2147483648 (fun j => g (t + j)) n + 2147483648 ^ n * o = wv 2147483648 (fun j => lf 35 (t + j)) n + wv 2147483648 (lf 36) n := by
  have hr := (hL.2.2.2 36 (by decide)).2
  obtain ⟨g, o, e1, e2, e3, e4⟩ := p_giveL (σ0 := σ0) (n := n) (t := t) hL hD hs hn6 hn5 bA g_fuel 0 0 lf (fuel_ge (by omega)) (Nat.zero_le _) (Nat.zero_le _) bl (fun _ => rfl)
  rw [Nat.sub_zero, fun_z, Nat.add_zero t, Nat.zero_add (wv _ _ _)] at e4
  refine ⟨g, o, ?_, e2, fun j hj => e3 j (by omega), e4⟩
  unfold fX1_giveBack
  rw [← nI_0]
  exact e1
/-- one digit of the quotient: the row above place t comes to its rest -/
theorem p_digit (hL : g_ok L) (hD : dvOK L σ0 dv) {t m : Nat} (hs : s 36 = m + 2) (hm : m + 2 ≤ L.2.2 36) (ht : t + (m + 2) < L.2.2 35) (bV : ∀ k, lf 36 k < 2147483648) (bR : ∀ k, lf 35 k < 2147483648) (hb : 2147483648 ≤ 2 * lf 36 (m + 1)) (hlt : wv 2147483648 (fun j => lf 35 (t + j)) (m + 3) < 2147483648 * wv 2147483648 (lf 36) (m + 2)) {β : Type} (K1 : g_S → Int32 → Option β) :
    ∃ d g, d < 2147483648 ∧ (∀ j, g j < 2147483648) ∧ (∀ j, j < t → g j = lf 35 j) ∧ wv 2147483648 (fun j => g (t + j)) (m + 2) < wv 2147483648 (lf 36) (m + 2) ∧ d * wv 2147483648 (lf 36) (m + 2) + wv 2147483648 (fun j => g (t + j)) (m + 2) = wv 2147483648 (fun j => lf 35 (t + j)) (m + 3) ∧
      ((fX1_guess (mkN L σ0 s lf) dv (nI t)).bind fun r39 => (g_o r39.2 1 dv).bind fun _ => (fX1_takeAway r39.2 dv r39.1 (nI t)).bind fun r41 => if r41.1 = 0 then K1 r41.2 r39.1 else ((g_o r41.2 1 dv).bind fun _ => (fX1_giveBack r41.2 dv (nI t)).bind fun r48 => g_let (r39.1 + (-1)) fun v49 => K1 r48 v49)) = K1 (mkN L σ0 s (va_up lf 35 g)) (nI d) := by
  obtain ⟨d, g1, g2, g3, g4⟩ := p_guess (σ0 := σ0) hL hD hs hm ht bV bR hb hlt
  have hVlt : wv 2147483648 (lf 36) (m + 2) < 2147483648 ^ (m + 2) := wv_lt (fun k _ => bV k)
  have eRs : wv 2147483648 (fun j => lf 35 (t + j)) (m + 3) = wv 2147483648 (fun j => lf 35 (t + j)) (m + 2) + lf 35 (t + (m + 2)) * 2147483648 ^ (m + 2) := wv_s _ _ _
  obtain ⟨g, o, etk, e2, e3, e4⟩ := p_take (σ0 := σ0) (s := s) (lf := lf) hL hD hs hm ht g2 bV bR
  have hglt : wv 2147483648 (fun j => g (t + j)) (m + 2) < 2147483648 ^ (m + 2) := wv_lt (fun k _ => e2 _)
  rcases kd_end g3 g4 with ⟨q1, q2⟩ | ⟨q1, q0, q2, q3⟩
  · obtain ⟨ho, hg1, hg2⟩ := kd_a1 eRs e4 hglt (Nat.le_of_lt hVlt) q1 q2
    refine ⟨d, g, g2, e2, fun j hj => e3 j (Or.inl hj), hg1, hg2, ?_⟩
    rw [g1]
    simp only [Option.bind_some, dv_o hD, etk]
    rw [if_neg ho, if_pos rfl]
  · obtain ⟨gg, oo, egb, f2, f3, f4⟩ := p_give (σ0 := σ0) (s := s) (lf := va_up lf 35 g) (t := t) hL hD hs hm ht (fun k => by rw [va_up_ne _ _ (by decide)]; exact bV k) (by rw [va_up_self]; exact e2)
    rw [va_up_self, va_up_ne _ _ (show (36 : Nat) ≠ 35 by decide)] at f4
    rw [up_up] at egb
    have hggl : wv 2147483648 (fun j => gg (t + j)) (m + 2) < 2147483648 ^ (m + 2) := wv_lt (fun k _ => f2 _)
    have hdV : d * wv 2147483648 (lf 36) (m + 2) = (d - 1) * wv 2147483648 (lf 36) (m + 2) + wv 2147483648 (lf 36) (m + 2) := by
      obtain ⟨z, rfl⟩ : ∃ z, d = z + 1 := ⟨d - 1, by omega⟩
      rw [Nat.add_sub_cancel, Nat.add_mul, Nat.one_mul]
    obtain ⟨ho, hg1, hg2⟩ := kd_a2 eRs e4 hglt hVlt hdV q1 q2 q3 f4 hggl
    refine ⟨d - 1, gg, by omega, f2, fun j hj => by rw [f3 j (Or.inl hj), va_up_self, e3 j (Or.inl hj)], hg1, hg2, ?_⟩
    rw [g1]
    simp only [Option.bind_some, dv_o hD, etk]
    rw [if_pos ho, if_neg (by decide), egb]
    simp only [Option.bind_some, g_let]
    rw [ja_m1, nI_s1 q0]
end DW
