/-! order, sums, differences of the desk's naturals -/
theorem wv_step (B : Nat) (g : Nat → Nat) (k m : Nat) : wv B (fun j => g (k + j)) (m + 1) = g k + B * wv B (fun j => g (k + 1 + j)) m := by
  rw [wv_head]
  show g (k + 0) + B * wv B (fun i => g (k + (i + 1))) m = _
  rw [Nat.add_zero]
  congr 2
  exact wv_congr (fun i _ => by congr 1; omega)
theorem wv_cut (B : Nat) (g : Nat → Nat) {k n : Nat} (h : k ≤ n) : wv B g n = wv B g k + B ^ k * wv B (fun j => g (k + j)) (n - k) := by
  have := wv_add B g k (n - k)
  rw [show k + (n - k) = n by omega] at this
  exact this
/-- the machine's answer of a comparison -/
def cmpI (a b : Nat) : Int32 := if a = b then 0 else if a < b then -1 else 1
theorem cmpI_add (a b t : Nat) : cmpI (a + t) (b + t) = cmpI a b := by
  unfold cmpI
  by_cases h : a = b
  · rw [if_pos h, if_pos (by omega)]
  · rw [if_neg h, if_neg (by omega)]
    by_cases h2 : a < b
    · rw [if_pos h2, if_pos (by omega)]
    · rw [if_neg h2, if_neg (by omega)]
theorem cmpI_lt {a b : Nat} (h : a < b) : cmpI a b = -1 := by
  unfold cmpI; rw [if_neg (by omega), if_pos h]
theorem cmpI_gt {a b : Nat} (h : b < a) : cmpI a b = 1 := by
  unfold cmpI; rw [if_neg (by omega), if_neg (by omega)]
theorem cmpI_eq (a : Nat) : cmpI a a = 0 := if_pos rfl
theorem cmpI_neg (a b : Nat) : cmpI a b < 0 ↔ a < b := by
  unfold cmpI
  by_cases h : a = b
  · rw [if_pos h]; simp [h]
  · rw [if_neg h]
    by_cases h2 : a < b
    · rw [if_pos h2]; simp [h2]
    · rw [if_neg h2]; simp [h2]
theorem ja_m1 (x : Int32) : x + (-1) = x - 1 := (Int32.sub_eq_add_neg x 1).symm
section NO
variable {L : g_L} {σ0 : g_S} {s : Nat → Nat} {lf : Nat → Nat → Nat} {v : Nat → Nat}
theorem p_orderL (hL : g_ok L) {i j : Nat} (hi : i < 45) (hj : j < 45) (bi : ∀ k, lf i k < 2147483648) (bj : ∀ k, lf j k < 2147483648) : ∀ (n c : Nat), c < n → c ≤ L.2.2 i → c ≤ L.2.2 j → LX3_order_35 n (mkN L σ0 s lf) (L.1 i) (L.1 j) (nI c - 1) = some (cmpI (wv 2147483648 (lf i) c) (wv 2147483648 (lf j) c), mkN L σ0 s lf) := by
  have hr := (hL.2.2.2 i hi).2
  intro n
  induction n with
  | zero => intro c h; omega
  | succ n ih =>
    intro c hn h1 h2
    unfold LX3_order_35 BX3_order_74 g_let
    cases c with
    | zero =>
      rw [if_pos (by decide), wv_0, wv_0, cmpI_eq]
    | succ c =>
      have b1 := bi c
      have b2 := bj c
      rw [nI_pred, if_neg (nI_pos (by omega))]
      simp only [n_row hL hi, n_row hL hj, Option.bind_some, n_get hL hi (show c < L.2.2 i by omega), n_get hL hj (show c < L.2.2 j by omega)]
      by_cases he : lf i c = lf j c
      · rw [if_pos (by rw [he]), ja_m1, ih c (by omega) (by omega) (by omega), wv_s, wv_s, he, cmpI_add]
      · rw [if_neg (fun e => he ((nI_eq (by omega) (by omega)).mp e))]
        by_cases hle : lf j c ≤ lf i c
        · rw [if_pos ((nI_leI (by omega) (by omega)).mpr hle), cmpI_gt (wv_lt_at (k := c) (fun k _ => bj k) (by omega) (by omega) (fun k _ _ => by omega))]
        · rw [if_neg (fun e => hle ((nI_leI (by omega) (by omega)).mp e)), cmpI_lt (wv_lt_at (k := c) (fun k _ => bi k) (by omega) (by omega) (fun k _ _ => by omega))]
theorem p_order (hL : g_ok L) {i j : Nat} (hi : i < 45) (hj : j < 45) (h : GV L s lf v) : fX3_order (mkN L σ0 s lf) (L.1 i) (L.1 j) = some (cmpI (v i) (v j), mkN L σ0 s lf) := by
  have hr := (hL.2.2.2 i hi).2
  have hr' := (hL.2.2.2 j hj).2
  obtain ⟨a1, a2, a3, a4⟩ := h i hi
  obtain ⟨b1, b2, b3, b4⟩ := h j hj
  unfold fX3_order BX3_order_27 g_let
  simp only [n_size hL hi, n_size hL hj, Option.bind_some]
  by_cases he : s i = s j
  · rw [if_pos (by rw [he]), p_orderL hL hi hj a2 b2 g_fuel (s i) (fuel_ge (by omega)) a1 (by omega), a4, he, b4]
  · rw [if_neg (fun e => he ((nI_eq (by omega) (by omega)).mp e))]
    by_cases hle : s j ≤ s i
    · rw [if_pos ((nI_leI (by omega) (by omega)).mpr hle), cmpI_gt (by rw [← a4, ← b4]; exact wc_lt (by decide) (fun k _ => b2 k) a3 (by omega))]
    · rw [if_neg (fun e => hle ((nI_leI (by omega) (by omega)).mp e)), cmpI_lt (by rw [← a4, ← b4]; exact wc_lt (by decide) (fun k _ => a2 k) b3 (by omega))]
/-- what a trimmed row is -/
theorem gw_trim {i c : Nat} {g : Nat → Nat} (h1 : c ≤ L.2.2 i) (hb : ∀ k, g k < 2147483648) : gw L i (wt g c) g (wv 2147483648 g c) :=
  ⟨Nat.le_trans (wt_le g c) h1, hb, wt_c g c, wt_v 2147483648 g c⟩
theorem up_lt {g : Nat → Nat} {k x : Nat} (hb : ∀ j, g j < 2147483648) (hx : x < 2147483648) : ∀ j, va_up g k x j < 2147483648 := fun j => by
  unfold va_up; split
  · exact hx
  · exact hb j
theorem q_becomeUnsigned (hL : g_ok L) {i : Nat} (hi : i < 45) (h : GV L s lf v) {n : Nat} (hn : n < 18446744073709551616) : ∃ s' lf', fX3_becomeUnsigned (mkN L σ0 s lf) (L.1 i) (lN n) = some (mkN L σ0 s' lf') ∧ GV L s' lf' (va_up v i n) := by
  have hr := hL.2.2.2 i hi
  obtain ⟨a1, a2, a3, a4⟩ := h i hi
  have e62 : g_lushr (lN n) 62 = lN (n / 4611686018427387904) := wb_shr (k := 62) hn (by decide)
  have h3 : (3 : Int32) = nI 3 := rfl
  obtain ⟨g, hg⟩ : ∃ g, g = va_up (va_up (va_up (lf i) 0 (n % 2147483648)) 1 (n / 2147483648 % 2147483648)) 2 (n / 4611686018427387904) := ⟨_, rfl⟩
  have hb : ∀ k, g k < 2147483648 := by rw [hg]; exact up_lt (up_lt (up_lt a2 (by omega)) (by omega)) (by omega)
  have e : wv 2147483648 g 3 = n := by
    simp only [hg, wv_s, wv_0, va_up]
    simp
    omega
  have q := h.up (gw_trim (c := 3) (i := i) (by omega) hb)
  rw [e] at q
  refine ⟨_, _, ?_, q⟩
  unfold fX3_becomeUnsigned
  rw [jl_and hn, jl_ushr hn, jl_and (by omega), e62, jl_i, jl_i, jl_i, show (0 : Int32) = nI 0 from rfl, show (1 : Int32) = nI 1 from rfl, show (2 : Int32) = nI 2 from rfl, h3]
  simp only [n_row hL hi, Option.bind_some, n_set hL hi (show 0 < L.2.2 i by omega), n_set hL hi (show 1 < L.2.2 i by omega), n_set hL hi (show 2 < L.2.2 i by omega), n_o hL hi, up_up, va_up_self]
  rw [← hg, p_trim hL hi (by omega) (fun k _ => by rw [va_up_self]; exact hb k), va_up_self]
  rfl
end NO
