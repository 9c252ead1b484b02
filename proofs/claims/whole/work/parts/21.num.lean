-- from kit/laws/BITS.to-paste
theorem wb_tb (n : Nat) : (lN n).toBitVec = BitVec.ofNat 64 n := rfl
theorem wb_inj {a b : Int64} (h : a.toBitVec = b.toBitVec) : a = b := Int64.toBitVec_inj.mp h
theorem wb_tn {n : Nat} (h : n < 2 ^ 64) : (lN n).toBitVec.toNat = n := by rw [wb_tb, BitVec.toNat_ofNat, Nat.mod_eq_of_lt h]
theorem wb_of (x : Int64) : ∃ n, n < 2 ^ 64 ∧ x = lN n := ⟨x.toBitVec.toNat, x.toBitVec.isLt, wb_inj (by rw [wb_tb]; simp)⟩
theorem wb_of32 (x : Int32) : ∃ n, n < 2 ^ 32 ∧ x = nI n := ⟨x.toBitVec.toNat, x.toBitVec.isLt, Int32.toBitVec_inj.mp (by show _ = BitVec.ofNat 32 _; simp)⟩
theorem wb_c : ∀ k, k < 64 → ((nI k).toInt64 &&& 63) = lN k := by decide +kernel
theorem wb_cu : ∀ k, k < 64 → ((nI k).toInt64.toUInt64 &&& Int64.toUInt64 63) = UInt64.ofNat k := by decide +kernel
theorem wb_sm : ∀ k, k < 64 → (BitVec.ofNat 64 k).smod 64 = BitVec.ofNat 64 k := by decide +kernel
theorem wb_lt2 {a b : Nat} (h : a < b) : 2 ^ a < 2 ^ b := Nat.pow_lt_pow_right (by decide) h
theorem wb_mod (n : Nat) : lN n = lN (n % 2 ^ 64) := wb_inj (by rw [wb_tb, wb_tb]; apply BitVec.eq_of_toNat_eq; rw [BitVec.toNat_ofNat, BitVec.toNat_ofNat, Nat.mod_mod])
theorem wb_shr {n k : Nat} (hn : n < 2 ^ 64) (hk : k < 64) : ((lN n).toUInt64 >>> ((nI k).toInt64.toUInt64 &&& Int64.toUInt64 63)).toInt64 = lN (n / 2 ^ k) := by
  rw [wb_cu k hk]
  apply wb_inj
  apply BitVec.eq_of_toNat_eq
  show ((lN n).toUInt64 >>> UInt64.ofNat k).toNat = (BitVec.ofNat 64 _).toNat
  have h1 : (UInt64.ofNat k).toNat = k := by
    show (BitVec.ofNat 64 k).toNat = k
    rw [BitVec.toNat_ofNat, Nat.mod_eq_of_lt (by omega)]
  have h2 : (lN n).toUInt64.toNat = n := wb_tn hn
  rw [UInt64.toNat_shiftRight, h1, h2, Nat.mod_eq_of_lt hk, Nat.shiftRight_eq_div_pow, BitVec.toNat_ofNat, Nat.mod_eq_of_lt (Nat.lt_of_le_of_lt (Nat.div_le_self _ _) hn)]
theorem wb_shl (n : Nat) {k : Nat} (hk : k < 64) : lN n <<< ((nI k).toInt64 &&& 63) = lN (n * 2 ^ k) := by
  rw [wb_c k hk]
  apply wb_inj
  rw [Int64.toBitVec_shiftLeft, wb_tb, wb_tb, wb_tb, wb_sm k hk]
  apply BitVec.eq_of_toNat_eq
  rw [BitVec.shiftLeft_eq', BitVec.toNat_shiftLeft, BitVec.toNat_ofNat, BitVec.toNat_ofNat, BitVec.toNat_ofNat, Nat.mod_eq_of_lt (show k < 2 ^ 64 by omega), Nat.shiftLeft_eq, Nat.mul_mod, Nat.mod_mod, ← Nat.mul_mod]
theorem wb_and {a b : Nat} (ha : a < 2 ^ 64) (hb : b < 2 ^ 64) : lN a &&& lN b = lN (a &&& b) := by
  apply wb_inj
  rw [Int64.toBitVec_and, wb_tb, wb_tb, wb_tb]
  apply BitVec.eq_of_toNat_eq
  rw [BitVec.toNat_and, BitVec.toNat_ofNat, BitVec.toNat_ofNat, BitVec.toNat_ofNat, Nat.mod_eq_of_lt ha, Nat.mod_eq_of_lt hb, Nat.mod_eq_of_lt (Nat.and_lt_two_pow _ hb)]
theorem wb_or {a b : Nat} (ha : a < 2 ^ 64) (hb : b < 2 ^ 64) : lN a ||| lN b = lN (a ||| b) := by
  apply wb_inj
  rw [Int64.toBitVec_or, wb_tb, wb_tb, wb_tb]
  apply BitVec.eq_of_toNat_eq
  rw [BitVec.toNat_or, BitVec.toNat_ofNat, BitVec.toNat_ofNat, BitVec.toNat_ofNat, Nat.mod_eq_of_lt ha, Nat.mod_eq_of_lt hb, Nat.mod_eq_of_lt (Nat.or_lt_two_pow ha hb)]
theorem wb_mask {n k : Nat} (hn : n < 2 ^ 64) (hk : k < 64) : lN n &&& lN (2 ^ k - 1) = lN (n % 2 ^ k) := by
  rw [wb_and hn (by have := wb_lt2 hk; omega), Nat.and_two_pow_sub_one_eq_mod]
-- the machine's numbers as naturals
theorem ja_mod (n : Nat) : nI n = nI (n % 4294967296) := Int32.toBitVec_inj.mp (by
  show BitVec.ofNat 32 n = BitVec.ofNat 32 (n % 4294967296)
  apply BitVec.eq_of_toNat_eq
  rw [BitVec.toNat_ofNat, BitVec.toNat_ofNat]
  omega)
theorem ja_and {n : Nat} (h : n < 4294967296) : nI n &&& 2147483647 = nI (n % 2147483648) := pk_andN (m := 2147483647) h 31 (by decide)
theorem ja_ushr {n : Nat} (h : n < 4294967296) : g_iushr (nI n) 31 = nI (n / 2147483648) := pk_ushrN h 31 31 (by decide)
/-- a difference with a borrow: its low 31 bits, and the borrow -/
theorem ja_diff {x y b : Nat} (hx : x < 2147483648) (hy : y < 2147483648) (hb : b ≤ 1) : (nI x - nI y - nI b) &&& 2147483647 = nI ((x + 2147483648 - y - b) % 2147483648) ∧ g_iushr (nI x - nI y - nI b) 31 = nI (if x < y + b then 1 else 0) := by
  by_cases h : x < y + b
  · have e : nI x - nI y - nI b = nI (x + 4294967296 - y - b) := by
      rw [← pk_sub (a := x + 4294967296 - y) (b := b) (by omega), ← pk_sub (a := x + 4294967296) (b := y) (by omega), ja_mod (x + 4294967296), Nat.add_mod_right, ← ja_mod]
    rw [e, ja_and (by omega), ja_ushr (by omega), if_pos h]
    exact ⟨by congr 1; omega, by congr 1; omega⟩
  · rw [pk_sub (by omega), pk_sub (by omega), ja_and (by omega), ja_ushr (by omega), if_neg h]
    exact ⟨by congr 1; omega, by congr 1; omega⟩
theorem ja_dif {x y : Nat} (hx : x < 2147483648) (hy : y < 2147483648) : (nI x - nI y) &&& 2147483647 = nI ((x + 2147483648 - y) % 2147483648) ∧ g_iushr (nI x - nI y) 31 = nI (if x < y then 1 else 0) := by
  have h := ja_diff hx hy (Nat.zero_le 1)
  have e : nI x - nI y - nI 0 = nI x - nI y := by rw [nI_0]; simp
  rw [e] at h
  exact h
theorem jl_and {n : Nat} (h : n < 18446744073709551616) : lN n &&& 2147483647 = lN (n % 2147483648) := wb_mask (k := 31) h (by decide)
theorem jl_ushr {n : Nat} (h : n < 18446744073709551616) : g_lushr (lN n) 31 = lN (n / 2147483648) := wb_shr (k := 31) h (by decide)
theorem jl_shl (n : Nat) {k : Nat} (hk : k < 64) : g_lshl (lN n) (nI k) = lN (n * 2 ^ k) := wb_shl n hk
theorem jl_or {a b k : Nat} (hb : b < 2 ^ k) (h : a * 2 ^ k + b < 2 ^ 64) : lN (a * 2 ^ k) ||| lN b = lN (a * 2 ^ k + b) := by
  rw [wb_or (by omega) (by omega), Nat.mul_comm a, Nat.two_pow_add_eq_or_of_lt hb]
theorem ji_l {n : Nat} (h : n < 2147483648) : (nI n).toInt64 = lN n := nI_l h
theorem jl_i (n : Nat) : (lN n).toInt32 = nI n := lN_i n
theorem nI_lit1 : (1 : Int32) = nI 1 := rfl
theorem g_in_of {k n : Nat} (h : k < n) (hn : n < 2147483648) : g_in (nI k) n = true := by
  unfold g_in
  rw [nI_toInt (by omega)]
  exact decide_eq_true (by omega)
theorem ja_e0 {a : Nat} (h : a < 2147483648) : nI a = 0 ↔ a = 0 := nI_eq (b := 0) h (by decide)
theorem ja_e1 {a : Nat} (h : a < 2147483648) : nI a = 1 ↔ a = 1 := nI_eq (b := 1) h (by decide)
theorem g_if_pos {α : Type} {c : Prop} [Decidable c] {x : Option α} (h : c) : g_if c x = x := if_pos h
