/-! the common divisor's object, and the highest bits -/
theorem g_up_up (σ : g_S) (a : Nat) (e1 e2 : g_E) : g_up (g_up σ a e1) a e2 = g_up σ a e2 := by
  apply Prod.ext
  · funext q
    show (if q = a then _ else if q = a then _ else _) = if q = a then _ else _
    by_cases h : q = a
    · rw [if_pos h, if_pos h]
    · rw [if_neg h, if_neg h, if_neg h]
  · rfl
def cdS (L : g_L) (σ0 : g_S) (cd dv : Nat) (a b c d : Int) : g_S := g_up σ0 cd (.inr (0, [.ref dv, .ref (L.1 37), .ref (L.1 38), .long (lZ a), .long (lZ b), .long (lZ c), .long (lZ d)]))
section CO
variable {L : g_L} {σ0 : g_S} {s : Nat → Nat} {lf : Nat → Nat → Nat} {v : Nat → Nat} {cd dv : Nat} {a b c d : Int}
theorem cd_o (h : g_not L cd) : g_o (mkN L (cdS L σ0 cd dv a b c d) s lf) 0 cd = some [.ref dv, .ref (L.1 37), .ref (L.1 38), .long (lZ a), .long (lZ b), .long (lZ c), .long (lZ d)] := g_o_of (by rw [mkN_x h]; exact g_up_s _ _ _)
theorem cd_dv (h : g_not L cd) : g_fr (mkN L (cdS L σ0 cd dv a b c d) s lf) 0 cd 0 = some dv := by unfold g_fr; rw [cd_o h]; rfl
theorem cd_gr (h : g_not L cd) : g_fr (mkN L (cdS L σ0 cd dv a b c d) s lf) 0 cd 1 = some (L.1 37) := by unfold g_fr; rw [cd_o h]; rfl
theorem cd_le (h : g_not L cd) : g_fr (mkN L (cdS L σ0 cd dv a b c d) s lf) 0 cd 2 = some (L.1 38) := by unfold g_fr; rw [cd_o h]; rfl
theorem cd_a (h : g_not L cd) : g_fl (mkN L (cdS L σ0 cd dv a b c d) s lf) 0 cd 3 = some (lZ a) := by unfold g_fl; rw [cd_o h]; rfl
theorem cd_b (h : g_not L cd) : g_fl (mkN L (cdS L σ0 cd dv a b c d) s lf) 0 cd 4 = some (lZ b) := by unfold g_fl; rw [cd_o h]; rfl
theorem cd_c (h : g_not L cd) : g_fl (mkN L (cdS L σ0 cd dv a b c d) s lf) 0 cd 5 = some (lZ c) := by unfold g_fl; rw [cd_o h]; rfl
theorem cd_d (h : g_not L cd) : g_fl (mkN L (cdS L σ0 cd dv a b c d) s lf) 0 cd 6 = some (lZ d) := by unfold g_fl; rw [cd_o h]; rfl
theorem cd_pa (h : g_not L cd) (x : Int) : g_p (mkN L (cdS L σ0 cd dv a b c d) s lf) 0 cd 3 (.long (lZ x)) = some (mkN L (cdS L σ0 cd dv x b c d) s lf) := by
  unfold g_p; rw [cd_o h]
  show some (g_up _ cd _) = _
  rw [mkN_px h]; unfold cdS; rw [g_up_up]; rfl
theorem cd_pb (h : g_not L cd) (x : Int) : g_p (mkN L (cdS L σ0 cd dv a b c d) s lf) 0 cd 4 (.long (lZ x)) = some (mkN L (cdS L σ0 cd dv a x c d) s lf) := by
  unfold g_p; rw [cd_o h]
  show some (g_up _ cd _) = _
  rw [mkN_px h]; unfold cdS; rw [g_up_up]; rfl
theorem cd_pc (h : g_not L cd) (x : Int) : g_p (mkN L (cdS L σ0 cd dv a b c d) s lf) 0 cd 5 (.long (lZ x)) = some (mkN L (cdS L σ0 cd dv a b x d) s lf) := by
  unfold g_p; rw [cd_o h]
  show some (g_up _ cd _) = _
  rw [mkN_px h]; unfold cdS; rw [g_up_up]; rfl
theorem cd_pd (h : g_not L cd) (x : Int) : g_p (mkN L (cdS L σ0 cd dv a b c d) s lf) 0 cd 6 (.long (lZ x)) = some (mkN L (cdS L σ0 cd dv a b c x) s lf) := by
  unfold g_p; rw [cd_o h]
  show some (g_up _ cd _) = _
  rw [mkN_px h]; unfold cdS; rw [g_up_up]; rfl
theorem cd_dvOK (h : dvOK L σ0 dv) (hne : dv ≠ cd) : dvOK L (cdS L σ0 cd dv a b c d) dv := ⟨h.1, by unfold cdS; rw [g_up_n _ _ hne]; exact h.2⟩
/-- the number without its lowest bits, of three limbs -/
theorem wl_val {l0 l1 l2 r : Nat} (hr : r < 31) (h0 : l0 < 2147483648) (h1 : l1 < 2147483648) : (l0 + 2147483648 * (l1 + 2147483648 * l2)) / 2 ^ r = l2 * 2 ^ (62 - r) + l1 * 2 ^ (31 - r) + l0 / 2 ^ r := by
  have e31 : (2147483648 : Nat) = 2 ^ r * 2 ^ (31 - r) := pow_split (a := r) (b := 31) (by omega)
  have e62 : (2 : Nat) ^ (62 - r) = 2 ^ (31 - r) * 2147483648 := by
    rw [show 62 - r = (31 - r) + 31 by omega, Nat.pow_add]
  have hp : 0 < 2 ^ r := Nat.pow_pos (by decide)
  have e : l0 + 2147483648 * (l1 + 2147483648 * l2) = l0 + 2 ^ r * (2 ^ (31 - r) * (l1 + 2147483648 * l2)) := by
    rw [← Nat.mul_assoc, ← e31]
  rw [e, Nat.add_mul_div_left _ _ hp, Nat.mul_add, e62]
  have : 2 ^ (31 - r) * (2147483648 * l2) = l2 * (2 ^ (31 - r) * 2147483648) := by ac_rfl
  rw [this, Nat.mul_comm (2 ^ (31 - r)) l1]
  omega
theorem p_without (hL : g_ok L) {i k : Nat} (hi : i < 45) (h : GV L s lf v) (hk : k < 100000) (hlt : v i / 2 ^ k < 2 ^ 62) : fX3_withoutLowest (mkN L σ0 s lf) (L.1 i) (nI k) = some (lN (v i / 2 ^ k), mkN L σ0 s lf) := by
  obtain ⟨a1, a2, a3, a4⟩ := h i hi
  obtain ⟨q, hq⟩ : ∃ q, q = k / 31 := ⟨_, rfl⟩
  obtain ⟨r, hr⟩ : ∃ r, r = k % 31 := ⟨_, rfl⟩
  have hr31 : r < 31 := by omega
  have ekq : 2 ^ k = 2147483648 ^ q * 2 ^ r := by
    rw [lb_pow, ← Nat.pow_add]
    congr 1
    omega
  have b0 := la_lt (s := s) (a := i) a2 q
  have b1 := la_lt (s := s) (a := i) a2 (q + 1)
  have b2 := la_lt (s := s) (a := i) a2 (q + 2)
  -- the digits from q on
  have e1 : v i = wv 2147483648 (fun j => la s lf i j) (q + (s i + 3)) := by rw [la_wv (by omega)]; exact a4.symm
  have e2 : v i / 2147483648 ^ q = wv 2147483648 (fun j => la s lf i (q + j)) (s i + 3) := by
    rw [e1, wv_add, Nat.add_mul_div_left _ _ (Nat.pow_pos (by decide)), Nat.div_eq_of_lt (wv_lt (fun j _ => la_lt a2 j)), Nat.zero_add]
  have e3 : wv 2147483648 (fun j => la s lf i (q + j)) (s i + 3) = la s lf i q + 2147483648 * (la s lf i (q + 1) + 2147483648 * (la s lf i (q + 2) + 2147483648 * wv 2147483648 (fun j => la s lf i (q + 3 + j)) (s i))) := by
    rw [wv_step, wv_step 2147483648 (fun j => la s lf i j) (q + 1), wv_step 2147483648 (fun j => la s lf i j) (q + 1 + 1)]
  have e4 : v i / 2 ^ k = (la s lf i q + 2147483648 * (la s lf i (q + 1) + 2147483648 * (la s lf i (q + 2) + 2147483648 * wv 2147483648 (fun j => la s lf i (q + 3 + j)) (s i)))) / 2 ^ r := by
    rw [ekq, ← Nat.div_div_eq_div_mul, e2, e3]
  rw [wl_val hr31 b0 b1] at e4
  have e62 : (2 : Nat) ^ 62 = 2 ^ r * 2 ^ (62 - r) := pow_split (a := r) (b := 62) (by omega)
  have hp : 0 < 2 ^ (62 - r) := Nat.pow_pos (by decide)
  have hz : la s lf i (q + 2) + 2147483648 * wv 2147483648 (fun j => la s lf i (q + 3 + j)) (s i) < 2 ^ r := by
    have h1 : (la s lf i (q + 2) + 2147483648 * wv 2147483648 (fun j => la s lf i (q + 3 + j)) (s i)) * 2 ^ (62 - r) < 2 ^ r * 2 ^ (62 - r) := by
      rw [← e62]
      rw [e4] at hlt
      generalize la s lf i q / 2 ^ r = T0 at hlt
      omega
    exact Nat.lt_of_mul_lt_mul_right h1
  have hr2 : 2 ^ r ≤ 2 ^ 30 := Nat.pow_le_pow_right (by decide) (by omega)
  have e30 : (2 : Nat) ^ 30 = 1073741824 := rfl
  have hz0 : wv 2147483648 (fun j => la s lf i (q + 3 + j)) (s i) = 0 := by omega
  rw [hz0, Nat.mul_zero, Nat.add_zero] at e4 hz
  have e31 : (2147483648 : Nat) = 2 ^ r * 2 ^ (31 - r) := pow_split (a := r) (b := 31) (by omega)
  have hlow : la s lf i q / 2 ^ r < 2 ^ (31 - r) := Nat.div_lt_of_lt_mul (by rw [← e31]; exact b0)
  have h62r : (2 : Nat) ^ (62 - r) = 2147483648 * 2 ^ (31 - r) := by
    rw [show 62 - r = 31 + (31 - r) by omega, Nat.pow_add]
  have hmid : la s lf i (q + 1) * 2 ^ (31 - r) < 2 ^ (62 - r) := by
    rw [h62r]
    exact Nat.mul_lt_mul_of_pos_right b1 (Nat.pow_pos (by decide))
  have hhigh : la s lf i (q + 2) * 2 ^ (62 - r) + 2 ^ (62 - r) ≤ 2 ^ 62 := by
    rw [e62]
    have : (la s lf i (q + 2) + 1) * 2 ^ (62 - r) ≤ 2 ^ r * 2 ^ (62 - r) := Nat.mul_le_mul_right _ hz
    rw [Nat.add_mul, Nat.one_mul] at this
    exact this
  have e64 : (2 : Nat) ^ 64 = 4 * 2 ^ 62 := rfl
  unfold fX3_withoutLowest
  simp only [g_let]
  have c31 : (31 : Int32) = nI 31 := rfl
  have hdv : nI k / 31 = nI q := by rw [c31, pk_div (by omega) (by omega) (by omega), ← hq]
  have hrm : g_irem (nI k) 31 = nI r := by
    rw [c31]
    unfold g_irem
    rw [pk_rem (by omega) (by omega) (by omega), ← hr]
  rw [hdv, hrm, nI_1, show (2 : Int32) = nI 2 from rfl, nI_add, show (62 : Int32) = nI 62 from rfl, c31, pk_sub (by omega), pk_sub (by omega)]
  simp only [n_o hL hi, Option.bind_some, p_limbAt hL hi a1 (show q + 2 < 2147483648 by omega), p_limbAt hL hi a1 (show q + 1 < 2147483648 by omega), p_limbAt hL hi a1 (show q < 2147483648 by omega)]
  rw [ji_l b2, ji_l b1, jl_shl _ (by omega), jl_shl _ (by omega), ja_ushrK (by omega) (by omega), ji_l (Nat.lt_of_le_of_lt (Nat.div_le_self _ _) b0), jl_or hmid (by omega)]
  have e7 : la s lf i (q + 2) * 2 ^ (62 - r) + la s lf i (q + 1) * 2 ^ (31 - r) = (la s lf i (q + 2) * 2147483648 + la s lf i (q + 1)) * 2 ^ (31 - r) := by
    rw [h62r, Nat.add_mul, Nat.mul_assoc]
  rw [e7, jl_or hlow (by omega), ← e7, ← e4]
end CO
