/-! signed longs as integers; Lehmer's step -/
def lZ (z : Int) : Int64 := Int64.ofInt z
theorem lZ_add (a b : Int) : lZ a + lZ b = lZ (a + b) := (Int64.ofInt_add a b).symm
theorem lZ_mul (a b : Int) : lZ a * lZ b = lZ (a * b) := (Int64.ofInt_mul a b).symm
theorem lZ_sub (a b : Int) : lZ a - lZ b = lZ (a - b) := (Int64.ofInt_sub a b).symm
theorem lZ_neg (a : Int) : -lZ a = lZ (-a) := Int64.neg_ofInt
theorem lZ_N (n : Nat) : lN n = lZ n := Int64.ofInt_eq_ofNat.symm
theorem lZ_toInt {z : Int} (h1 : -9223372036854775808 ≤ z) (h2 : z < 9223372036854775808) : (lZ z).toInt = z := Int64.toInt_ofInt_of_le h1 h2
theorem lZ_le {a b : Int} (a1 : -9223372036854775808 ≤ a) (a2 : a < 9223372036854775808) (b1 : -9223372036854775808 ≤ b) (b2 : b < 9223372036854775808) : lg_cmp (lZ a) (lZ b) ≤ 0 ↔ a ≤ b := by
  rw [lg_cmp_le, Int64.le_iff_toInt_le, lZ_toInt a1 a2, lZ_toInt b1 b2]
theorem lZ_gt {a b : Int} (a1 : -9223372036854775808 ≤ a) (a2 : a < 9223372036854775808) (b1 : -9223372036854775808 ≤ b) (b2 : b < 9223372036854775808) : 0 < lg_cmp (lZ a) (lZ b) ↔ b < a := by
  rw [lg_cmp_gt, Int64.lt_iff_toInt_lt, lZ_toInt a1 a2, lZ_toInt b1 b2]
theorem lZ_ge {a b : Int} (a1 : -9223372036854775808 ≤ a) (a2 : a < 9223372036854775808) (b1 : -9223372036854775808 ≤ b) (b2 : b < 9223372036854775808) : 0 ≤ lg_cmp (lZ a) (lZ b) ↔ b ≤ a := by
  rw [lg_cmp_ge, Int64.le_iff_toInt_le, lZ_toInt a1 a2, lZ_toInt b1 b2]
theorem lZ_inj {a b : Int} (a1 : -9223372036854775808 ≤ a) (a2 : a < 9223372036854775808) (b1 : -9223372036854775808 ≤ b) (b2 : b < 9223372036854775808) : lZ a = lZ b ↔ a = b := by
  rw [← Int64.toInt_inj, lZ_toInt a1 a2, lZ_toInt b1 b2]
theorem lZ_eq {a b : Int} (a1 : -9223372036854775808 ≤ a) (a2 : a < 9223372036854775808) (b1 : -9223372036854775808 ≤ b) (b2 : b < 9223372036854775808) : lg_cmp (lZ a) (lZ b) = 0 ↔ a = b := by
  rw [lg_cmp_eq, lZ_inj a1 a2 b1 b2]
theorem lZ_mod (z : Int) : lZ z = lN (z % 18446744073709551616).toNat := by
  apply wb_inj
  apply BitVec.eq_of_toNat_eq
  show (BitVec.ofInt 64 z).toNat = (BitVec.ofNat 64 _).toNat
  rw [BitVec.toNat_ofInt, BitVec.toNat_ofNat]
  omega
theorem lZ_and (z : Int) : lZ z &&& 2147483647 = lN (z % 2147483648).toNat := by
  rw [lZ_mod, jl_and (by omega)]
  congr 1
  omega
theorem lZ_shr {z : Int} (h1 : -9223372036854775808 ≤ z) (h2 : z < 9223372036854775808) : g_lshr (lZ z) 31 = lZ (z / 2147483648) := by
  apply Int64.toInt_inj.mp
  rw [lZ_toInt (by omega) (by omega)]
  show ((lZ z) >>> ((31 : Int32).toInt64 &&& 63)).toInt = _
  have hk : (((31 : Int32).toInt64 &&& 63).toBitVec.smod 64).toNat = 31 := by decide
  have hz := lZ_toInt h1 h2
  show (((lZ z) >>> ((31 : Int32).toInt64 &&& 63)).toBitVec).toInt = _
  rw [Int64.toBitVec_shiftRight, BitVec.sshiftRight_eq', BitVec.toInt_sshiftRight, hk, Int.shiftRight_eq_div_pow]
  show (lZ z).toInt / _ = _
  rw [hz]
  rfl
theorem lZ_div {x y : Int} (hx : 0 ≤ x) (hx2 : x < 9223372036854775808) (hy : 0 < y) (hy2 : y < 9223372036854775808) : lZ x / lZ y = lZ (x / y) := by
  obtain ⟨n, rfl⟩ : ∃ n : Nat, x = n := ⟨x.toNat, by omega⟩
  obtain ⟨m, rfl⟩ : ∃ m : Nat, y = m := ⟨y.toNat, by omega⟩
  rw [← lZ_N, ← lZ_N, pk_lDiv (by omega) (by omega) (by omega), lZ_N]
  rfl
theorem lZ_abs {σ : g_S} {z : Int} (h1 : -9223372036854775808 < z) (h2 : z < 9223372036854775808) : fJ9_abs_067f4 σ (lZ z) = some (lZ (if 0 ≤ z then z else -z), σ) := by
  unfold fJ9_abs_067f4 BJ9_abs_067f4_12
  rw [show (0 : Int64) = lZ 0 from rfl]
  by_cases h : 0 ≤ z
  · rw [if_pos ((lZ_ge (by omega) (by omega) (by omega) (by omega)).mpr h), if_pos h]
  · rw [if_neg (fun q => h ((lZ_ge (by omega) (by omega) (by omega) (by omega)).mp q)), if_neg h, lZ_neg]
/-- the signs of a pass -/
def lpat (a b c d : Int) : Prop := (0 ≤ a ∧ b ≤ 0 ∧ c ≤ 0 ∧ 0 ≤ d) ∨ (a ≤ 0 ∧ 0 ≤ b ∧ 0 ≤ c ∧ d ≤ 0)
theorem l_lo {a b c d x y P X Y q : Int} (hP : 0 ≤ P) (hX : 0 ≤ X) (hX2 : X ≤ P) (hY : 0 ≤ Y) (hY2 : Y ≤ P) (hq : 0 ≤ q) (ha : 0 ≤ a) (hb : b ≤ 0) (hc : c ≤ 0) (hd : 0 ≤ d) (h : q * (y + d) ≤ x + b) : q * (y * P + (c * X + d * Y)) ≤ x * P + (a * X + b * Y) := by
  have h1 : 0 ≤ q * d := Int.mul_nonneg hq hd
  have h2 : q * c ≤ 0 := Int.mul_nonpos_of_nonneg_of_nonpos hq hc
  have h3 : 0 ≤ (a - q * c) * X := Int.mul_nonneg (by omega) hX
  have h4 : 0 ≤ (q * d - b) * (P - Y) := Int.mul_nonneg (by omega) (by omega)
  have h5 : 0 ≤ (x + b - q * (y + d)) * P := Int.mul_nonneg (by omega) hP
  grind
theorem l_hi {a b c d x y P X Y q : Int} (hP : 0 < P) (hX : 0 ≤ X) (hX2 : X ≤ P) (hY : 0 ≤ Y) (hY2 : Y ≤ P) (hq : 0 ≤ q) (ha : 0 ≤ a) (hb : b ≤ 0) (hc : c ≤ 0) (hd : 0 ≤ d) (h : x + a < (q + 1) * (y + c)) : x * P + (a * X + b * Y) < (q + 1) * (y * P + (c * X + d * Y)) := by
  have h1 : 0 ≤ (q + 1) * d := Int.mul_nonneg (by omega) hd
  have h2 : (q + 1) * c ≤ 0 := Int.mul_nonpos_of_nonneg_of_nonpos (by omega) hc
  have h3 : 0 ≤ ((q + 1) * d - b) * Y := Int.mul_nonneg (by omega) hY
  have h4 : 0 ≤ (a - (q + 1) * c) * (P - X) := Int.mul_nonneg (by omega) (by omega)
  have h5 : 0 < ((q + 1) * (y + c) - (x + a)) * P := Int.mul_pos (by omega) hP
  grind
/-- the quotient of the highest bits is that of the numbers -/
theorem l_quot {a b c d x y P X Y q : Int} (hP : 0 < P) (hX : 0 ≤ X) (hX2 : X ≤ P) (hY : 0 ≤ Y) (hY2 : Y ≤ P) (hq : 0 ≤ q) (hp : lpat a b c d) (h1 : q * (y + c) ≤ x + a) (h2 : x + a < (q + 1) * (y + c)) (h3 : q * (y + d) ≤ x + b) (h4 : x + b < (q + 1) * (y + d)) : q * (y * P + (c * X + d * Y)) ≤ x * P + (a * X + b * Y) ∧ x * P + (a * X + b * Y) < (q + 1) * (y * P + (c * X + d * Y)) := by
  rcases hp with ⟨p1, p2, p3, p4⟩ | ⟨p1, p2, p3, p4⟩
  · exact ⟨l_lo (by omega) hX hX2 hY hY2 hq p1 p2 p3 p4 h3, l_hi hP hX hX2 hY hY2 hq p1 p2 p3 p4 h2⟩
  · have g1 := l_lo (a := b) (b := a) (c := d) (d := c) (x := x) (y := y) (X := Y) (Y := X) (P := P) (by omega) hY hY2 hX hX2 hq p2 p1 p4 p3 h1
    have g2 := l_hi (a := b) (b := a) (c := d) (d := c) (x := x) (y := y) (X := Y) (Y := X) (P := P) hP hY hY2 hX hX2 hq p2 p1 p4 p3 h4
    rw [Int.add_comm (d * Y), Int.add_comm (b * Y)] at g1 g2
    exact ⟨g1, g2⟩
/-- how large a part of a pass is -/
theorem l_rng {a b P X Y m : Int} (hP : 0 ≤ P) (hX : 0 ≤ X) (hX2 : X ≤ P) (hY : 0 ≤ Y) (hY2 : Y ≤ P) (h : (0 ≤ a ∧ b ≤ 0) ∨ (a ≤ 0 ∧ 0 ≤ b)) (ha : a ≤ m ∧ -m ≤ a) (hb : b ≤ m ∧ -m ≤ b) : -(m * P) ≤ a * X + b * Y ∧ a * X + b * Y ≤ m * P := by
  have hm : 0 ≤ m := by omega
  rcases h with ⟨h1, h2⟩ | ⟨h1, h2⟩
  · have g1 : 0 ≤ a * X := Int.mul_nonneg h1 hX
    have g2 : b * Y ≤ 0 := Int.mul_nonpos_of_nonpos_of_nonneg h2 hY
    have g3 : 0 ≤ a * (P - X) := Int.mul_nonneg h1 (by omega)
    have g4 : 0 ≤ (m - a) * P := Int.mul_nonneg (by omega) hP
    have g5 : 0 ≤ (-b) * (P - Y) := Int.mul_nonneg (by omega) (by omega)
    have g6 : 0 ≤ (m + b) * P := Int.mul_nonneg (by omega) hP
    constructor <;> grind
  · have g1 : a * X ≤ 0 := Int.mul_nonpos_of_nonpos_of_nonneg h1 hX
    have g2 : 0 ≤ b * Y := Int.mul_nonneg h2 hY
    have g3 : 0 ≤ (-a) * (P - X) := Int.mul_nonneg (by omega) (by omega)
    have g4 : 0 ≤ (m + a) * P := Int.mul_nonneg (by omega) hP
    have g5 : 0 ≤ b * (P - Y) := Int.mul_nonneg h2 (by omega)
    have g6 : 0 ≤ (m - b) * P := Int.mul_nonneg (by omega) hP
    constructor <;> grind
