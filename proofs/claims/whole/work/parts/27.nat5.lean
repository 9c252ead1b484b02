/-! bits, shifts, longs of the desk's naturals -/
/-- k bits: the number of bits of v -/
def isbl (v k : Nat) : Prop := v < 2 ^ k ∧ (k = 0 ∨ 2 ^ (k - 1) ≤ v)
theorem isbl_uniq {v a b : Nat} (ha : isbl v a) (hb : isbl v b) : a = b := by
  have key : ∀ {a b : Nat}, isbl v a → isbl v b → ¬ a < b := fun {a b} ha hb h => by
    rcases hb.2 with q | q
    · omega
    · have : 2 ^ a ≤ 2 ^ (b - 1) := Nat.pow_le_pow_right (by decide) (by omega)
      have := ha.1
      omega
  have h1 := key ha hb
  have h2 := key hb ha
  omega
theorem isbl_zero {k : Nat} (h : isbl 0 k) : k = 0 := by
  rcases h.2 with q | q
  · exact q
  · have : 0 < 2 ^ (k - 1) := Nat.pow_pos (by decide)
    omega
theorem isbl_pos {v k : Nat} (h : isbl v k) (hv : v ≠ 0) : 0 < k := by
  rcases Nat.eq_zero_or_pos k with q | q
  · subst q
    have := h.1
    simp at this
    exact absurd this hv
  · exact q
theorem isbl_le {v k m : Nat} (h : isbl v k) : k ≤ m ↔ v < 2 ^ m := by
  constructor
  · intro q
    exact Nat.lt_of_lt_of_le h.1 (Nat.pow_le_pow_right (by decide) q)
  · intro q
    rcases Nat.lt_or_ge m k with z | z
    · rcases h.2 with w | w
      · omega
      · have : 2 ^ m ≤ 2 ^ (k - 1) := Nat.pow_le_pow_right (by decide) (by omega)
        omega
    · exact z
theorem isbl_shift {x t m k : Nat} (hx : isbl x k) (ht : t < 2 ^ m) (hx0 : x ≠ 0) : isbl (t + x * 2 ^ m) (m + k) := by
  have h1 : (x + 1) * 2 ^ m ≤ 2 ^ k * 2 ^ m := Nat.mul_le_mul_right _ hx.1
  rw [Nat.add_mul, Nat.one_mul, ← Nat.pow_add] at h1
  have hk := isbl_pos hx hx0
  refine ⟨by rw [Nat.add_comm m k]; omega, ?_⟩
  rcases hx.2 with q | q
  · omega
  · right
    have h2 : 2 ^ (k - 1) * 2 ^ m ≤ x * 2 ^ m := Nat.mul_le_mul_right _ q
    rw [← Nat.pow_add] at h2
    rw [show m + k - 1 = k - 1 + m by omega]
    omega
theorem lb_pow (n : Nat) : 2147483648 ^ n = 2 ^ (31 * n) := by
  rw [Nat.pow_mul]
theorem nj_su : ∀ n, n < 32 → (((nI n).toUInt32 &&& Int32.toUInt32 31).toBitVec % 32).toNat = n := by decide +kernel
theorem nj_sl : ∀ n, n < 32 → ((nI n &&& 31).toBitVec.smod 32).toNat = n := by decide +kernel
theorem ja_ushrK {n k : Nat} (hn : n < 4294967296) (hk : k < 32) : g_iushr (nI n) (nI k) = nI (n / 2 ^ k) := pk_ushrN hn (nI k) k (nj_su k hk)
theorem ja_shlK (n : Nat) {k : Nat} (hk : k < 32) : g_ishl (nI n) (nI k) = nI (n * 2 ^ k) := by
  apply Int32.toBitVec_inj.mp
  apply BitVec.eq_of_toNat_eq
  have h := pk_shl (nI n) (nI k &&& 31) k (nj_sl k hk)
  show (nI n <<< (nI k &&& 31)).toBitVec.toNat = _
  rw [h]
  show (BitVec.ofNat 32 n).toNat * 2 ^ k % 2 ^ 32 = (BitVec.ofNat 32 (n * 2 ^ k)).toNat
  rw [BitVec.toNat_ofNat, BitVec.toNat_ofNat, Nat.mod_mul_mod]
theorem ja_orN {a b : Nat} (ha : a < 4294967296) (hb : b < 4294967296) : nI a ||| nI b = nI (a ||| b) := by
  apply Int32.toBitVec_inj.mp
  rw [Int32.toBitVec_or]
  show BitVec.ofNat 32 a ||| BitVec.ofNat 32 b = BitVec.ofNat 32 (a ||| b)
  apply BitVec.eq_of_toNat_eq
  rw [BitVec.toNat_or, BitVec.toNat_ofNat, BitVec.toNat_ofNat, BitVec.toNat_ofNat, Nat.mod_eq_of_lt ha, Nat.mod_eq_of_lt hb, Nat.mod_eq_of_lt (Nat.or_lt_two_pow (n := 32) ha hb)]
section NB
variable {L : g_L} {σ0 : g_S} {s : Nat → Nat} {lf : Nat → Nat → Nat} {v : Nat → Nat}
theorem p_bitsL (hL : g_ok L) {i top : Nat} (hi : i < 45) (hs : s i ≤ L.2.2 i) (hs0 : 0 < s i) : ∀ (n t : Nat), t < n → t ≤ 31 → top < 2 ^ t → ∃ k, isbl top k ∧ k ≤ 31 ∧ LX3_bitLength_24 n (mkN L σ0 s lf) (L.1 i) (nI top) (nI t) = some (nI ((s i - 1) * 31 + k), mkN L σ0 s lf) := by
  have hr := (hL.2.2.2 i hi).2
  have hB : ∀ k, BX3_bitLength_42 (mkN L σ0 s lf) (L.1 i) (nI k) = some (nI ((s i - 1) * 31 + k), mkN L σ0 s lf) := fun k => by
    unfold BX3_bitLength_42
    simp only [n_size hL hi, Option.bind_some]
    rw [show (1 : Int32) = nI 1 from rfl, show (31 : Int32) = nI 31 from rfl, pk_sub (by omega), pk_mul, nI_add]
  intro n
  induction n with
  | zero => intro t h; omega
  | succ n ih =>
    intro t hn ht htop
    unfold LX3_bitLength_24 g_let
    cases t with
    | zero =>
      refine ⟨0, ⟨htop, Or.inl rfl⟩, by omega, ?_⟩
      rw [if_pos (by decide), hB]
    | succ t =>
      have hp : 2 ^ (t + 1) ≤ 2 ^ 31 := Nat.pow_le_pow_right (by decide) ht
      have e31 : (2 : Nat) ^ 31 = 2147483648 := rfl
      rw [if_neg (nI_nle (by omega) (by omega)), nI_pred, ja_ushrK (by omega) (by omega), ja_m1, nI_pred]
      by_cases h0 : top / 2 ^ t = 0
      · have h1 : top < 2 ^ t := by
          rcases Nat.div_eq_zero_iff.mp h0 with q | q
          · have : 0 < 2 ^ t := Nat.pow_pos (by decide)
            omega
          · exact q
        rw [if_pos (by rw [h0]; rfl)]
        exact ih t (by omega) (by omega) h1
      · rw [if_neg (fun e => h0 ((ja_e0 (Nat.lt_of_le_of_lt (Nat.div_le_self _ _) (by omega))).mp e)), hB]
        refine ⟨t + 1, ⟨htop, Or.inr ?_⟩, ht, rfl⟩
        show 2 ^ t ≤ top
        rcases Nat.lt_or_ge top (2 ^ t) with q | q
        · exact absurd (Nat.div_eq_of_lt q) h0
        · exact q
theorem p_bits (hL : g_ok L) {i : Nat} (hi : i < 45) (h : GV L s lf v) : ∃ k, isbl (v i) k ∧ k ≤ 31 * s i ∧ (s i = 0 ∨ 31 * (s i - 1) < k) ∧ fX3_bitLength (mkN L σ0 s lf) (L.1 i) = some (nI k, mkN L σ0 s lf) := by
  have hr := (hL.2.2.2 i hi).2
  obtain ⟨a1, a2, a3, a4⟩ := h i hi
  unfold fX3_bitLength
  simp only [n_size hL hi, n_row hL hi, Option.bind_some]
  by_cases hs : s i = 0
  · rw [if_pos (by rw [hs]; rfl)]
    refine ⟨0, ?_, by omega, Or.inl hs, rfl⟩
    rw [hs, wv_0] at a4
    rw [← a4]
    exact ⟨by simp, Or.inl rfl⟩
  · rw [if_neg (fun e => hs ((ja_e0 (by omega)).mp e)), show (1 : Int32) = nI 1 from rfl, pk_sub (by omega), n_get hL hi (by omega)]
    simp only [Option.bind_some]
    have htop := a2 (s i - 1)
    obtain ⟨k, h1, h2, h3⟩ := p_bitsL (σ0 := σ0) (lf := lf) hL hi a1 (by omega) g_fuel 31 (fuel_ge (by omega)) (Nat.le_refl _) htop
    have hne : lf i (s i - 1) ≠ 0 := by
      rcases a3 with q | q
      · omega
      · exact q
    have hk := isbl_pos h1 hne
    refine ⟨(s i - 1) * 31 + k, ?_, by omega, Or.inr (by omega), h3⟩
    have h5 := isbl_shift h1 (t := wv 2147483648 (lf i) (s i - 1)) (m := 31 * (s i - 1)) (by rw [← lb_pow]; exact wv_lt (fun q _ => a2 q)) hne
    rw [← lb_pow] at h5
    have h6 : wv 2147483648 (lf i) (s i - 1) + lf i (s i - 1) * 2147483648 ^ (s i - 1) = v i := by
      rw [← a4]
      conv => rhs; rw [show s i = (s i - 1) + 1 by omega, wv_s]
    rw [h6, Nat.mul_comm] at h5
    exact h5
/-- the limit of N's size and of D -/
def TOP : Nat := 2 ^ 2048
theorem p_fits (hL : g_ok L) {i : Nat} (hi : i < 45) (h : GV L s lf v) : fX3_fits (mkN L σ0 s lf) (L.1 i) = some (if v i < TOP then 1 else 0, mkN L σ0 s lf) := by
  have hr := (hL.2.2.2 i hi).2
  obtain ⟨a1, -⟩ := h i hi
  obtain ⟨k, h1, h2, h4, h3⟩ := p_bits (σ0 := σ0) hL hi h
  unfold fX3_fits BX3_fits_15
  simp only [n_o hL hi, h3, Option.bind_some]
  have h5 : k ≤ 2048 ↔ v i < TOP := isbl_le (m := 2048) h1
  by_cases hk : k ≤ 2048
  · rw [if_neg (by rw [show (2048 : Int32) = nI 2048 from rfl]; exact nI_nlt hk (by omega)), if_pos (h5.mp hk)]
    exact g_if_pos (by simp)
  · rw [if_pos (by rw [show (2048 : Int32) = nI 2048 from rfl]; exact nI_lt (by omega) (by omega)), if_neg (fun q => hk (h5.mpr q))]
    exact g_if_pos (by simp)
theorem la_mod2 {i : Nat} : la s lf i 0 % 2 = wv 2147483648 (lf i) (s i) % 2 := by
  unfold la
  cases hs : s i with
  | zero => simp [wv_0]
  | succ n =>
    rw [if_pos (by omega), wv_head]
    omega
theorem p_isOdd (hL : g_ok L) {i : Nat} (hi : i < 45) (h : GV L s lf v) : fX3_isOdd (mkN L σ0 s lf) (L.1 i) = some (if v i % 2 = 1 then 1 else 0, mkN L σ0 s lf) := by
  obtain ⟨a1, a2, a3, a4⟩ := h i hi
  have b := la_lt (s := s) (a := i) a2 0
  unfold fX3_isOdd BX3_isOdd_16
  rw [show (0 : Int32) = nI 0 from rfl]
  simp only [n_o hL hi, Option.bind_some, p_limbAt hL hi a1 (show 0 < 2147483648 by omega)]
  have e : nI (la s lf i 0) &&& 1 = nI (v i % 2) := by
    rw [← a4, ← la_mod2]
    exact pk_andN (m := 1) (by omega) 1 (by decide)
  rw [e]
  by_cases h1 : v i % 2 = 1
  · rw [if_pos (by rw [h1]; rfl), if_pos h1]
    exact g_if_pos (by simp)
  · rw [if_neg (fun q => h1 ((ja_e1 (by omega)).mp q)), if_neg h1]
    exact g_if_pos (by simp [nI_0])
theorem p_toLong (hL : g_ok L) {i : Nat} (hi : i < 45) (h : GV L s lf v) (hs : s i ≤ 2) : fX3_toLong (mkN L σ0 s lf) (L.1 i) = some (lN (v i), mkN L σ0 s lf) := by
  obtain ⟨a1, a2, a3, a4⟩ := h i hi
  have b0 := la_lt (s := s) (a := i) a2 0
  have b1 := la_lt (s := s) (a := i) a2 1
  unfold fX3_toLong
  rw [show (0 : Int32) = nI 0 from rfl, show (1 : Int32) = nI 1 from rfl]
  simp only [n_o hL hi, Option.bind_some, p_limbAt hL hi a1 (show 0 < 2147483648 by omega), p_limbAt hL hi a1 (show 1 < 2147483648 by omega)]
  have es : g_lshl (lN (la s lf i 1)) 31 = lN (la s lf i 1 * 2 ^ 31) := jl_shl _ (k := 31) (by decide)
  rw [ji_l b0, ji_l b1, es, jl_or (k := 31) (by omega) (by omega)]
  have e : la s lf i 1 * 2 ^ 31 + la s lf i 0 = v i := by
    rw [← a4, ← la_wv hs, wv_s, wv_s, wv_0]
    simp
    omega
  rw [e]
end NB
