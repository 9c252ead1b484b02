/-! the tape -/
def sb (n : Nat) : Int32 := vp_nar .byte ((nI n).toInt8.toInt32)
abbrev isD (n : Nat) : Prop := 48 ≤ n ∧ n ≤ 57
theorem sb_all : ∀ n, n < 256 → (sb n = 45 ↔ n = 45) ∧ (sb n = 47 ↔ n = 47) ∧ (sb n < 48 ∨ 57 < sb n ↔ ¬ (48 ≤ n ∧ n ≤ 57)) ∧ (48 ≤ n ∧ n ≤ 57 → sb n = nI n) := by decide +kernel
theorem i8_low (w : Int32) : w.toInt8 = (nI (w.toBitVec.toNat % 256)).toInt8 := by
  apply Int8.toBitVec_inj.mp
  show w.toBitVec.signExtend 8 = (BitVec.ofNat 32 (w.toBitVec.toNat % 256)).signExtend 8
  apply BitVec.eq_of_toNat_eq
  rw [BitVec.signExtend_eq_setWidth_of_le _ (by decide), BitVec.signExtend_eq_setWidth_of_le _ (by decide), BitVec.toNat_setWidth, BitVec.toNat_setWidth, BitVec.toNat_ofNat]
  omega
theorem sb_low (w : Int32) : vp_nar .byte (w.toInt8.toInt32) = sb (w.toBitVec.toNat % 256) := by
  unfold sb
  rw [← i8_low]
def bn (x : Int32) (j : Nat) : Nat := (g_ishr x (nI (24 - 8 * j))).toBitVec.toNat % 256
theorem bn_lt (x : Int32) (j : Nat) : bn x j < 256 := Nat.mod_lt _ (by decide)
/-- n digits from k on -/
def dv (tn : Nat → Nat) (k : Nat) : Nat → Nat
  | 0 => 0
  | n + 1 => dv tn k n * 10 + (tn (k + n) - 48)
theorem dv_mono (tn : Nat → Nat) (k n : Nat) : ∀ m, dv tn k n ≤ dv tn k (n + m)
  | 0 => Nat.le_refl _
  | m + 1 => by
    have := dv_mono tn k n m
    show _ ≤ dv tn k (n + m) * 10 + _
    omega
theorem dv_add (tn : Nat → Nat) (k n : Nat) : ∀ m, dv tn k (n + m) = dv tn k n * 10 ^ m + dv tn (k + n) m
  | 0 => by show _ = _ * 10 ^ 0 + 0; simp
  | m + 1 => by
    show dv tn k (n + m) * 10 + (tn (k + (n + m)) - 48) = dv tn k n * 10 ^ (m + 1) + (dv tn (k + n) m * 10 + (tn (k + n + m) - 48))
    rw [dv_add tn k n m, Nat.pow_succ, ← Nat.mul_assoc, Nat.add_mul, Nat.add_assoc k n m]
    omega
theorem dv_lt {tn : Nat → Nat} {k : Nat} : ∀ {n : Nat}, (∀ j, j < n → isD (tn (k + j))) → dv tn k n < 10 ^ n
  | 0, _ => by show 0 < 10 ^ 0; decide
  | n + 1, h => by
    have h1 := dv_lt (n := n) (fun j hj => h j (by omega))
    have h2 := h n (by omega)
    have h2 : 48 ≤ tn (k + n) ∧ tn (k + n) ≤ 57 := h2
    show dv tn k n * 10 + _ < _
    rw [Nat.pow_succ]
    omega
/-- the digits from k on: c of them -/
def DR (tn : Nat → Nat) (tl k c : Nat) : Prop := (∀ j, j < c → k + j < tl ∧ isD (tn (k + j))) ∧ ¬ (k + c < tl ∧ isD (tn (k + c)))
theorem DR_uniq {tn : Nat → Nat} {tl k c d : Nat} (h : DR tn tl k c) (h' : DR tn tl k d) : c = d := by
  rcases Nat.lt_trichotomy c d with q | q | q
  · exact absurd (h'.1 c q) h.2
  · exact q
  · exact absurd (h.1 d q) h'.2
theorem DR_ex (tn : Nat → Nat) (tl k : Nat) : ∃ c, DR tn tl k c := by
  have key : ∀ m, (∃ c, DR tn tl k c) ∨ ∀ j, j < m → k + j < tl ∧ isD (tn (k + j)) := by
    intro m
    induction m with
    | zero => exact Or.inr (fun j hj => by omega)
    | succ m ih =>
      rcases ih with h | h
      · exact Or.inl h
      · by_cases q : k + m < tl ∧ isD (tn (k + m))
        · exact Or.inr (fun j hj => by
            rcases Nat.lt_or_ge j m with r | r
            · exact h j r
            · rw [show j = m by omega]; exact q)
        · exact Or.inl ⟨m, h, q⟩
  rcases key (tl + 1) with h | h
  · exact h
  · have := (h tl (by omega)).1
    omega
noncomputable def rlen (tn : Nat → Nat) (tl k : Nat) : Nat := Classical.choose (DR_ex tn tl k)
theorem rlen_is (tn : Nat → Nat) (tl k : Nat) : DR tn tl k (rlen tn tl k) := Classical.choose_spec (DR_ex tn tl k)
/-- what the tape says: none, or numerator, denominator, 1 if below 0 -/
def tNeg (tn : Nat → Nat) (tl : Nat) : Nat := if 0 < tl ∧ tn 0 = 45 then 1 else 0
noncomputable def tE (tn : Nat → Nat) (tl : Nat) : Nat := tNeg tn tl + rlen tn tl (tNeg tn tl)
noncomputable def tN (tn : Nat → Nat) (tl : Nat) : Nat := dv tn (tNeg tn tl) (rlen tn tl (tNeg tn tl))
noncomputable def tM (tn : Nat → Nat) (tl : Nat) : Nat := dv tn (tE tn tl + 1) (rlen tn tl (tE tn tl + 1))
noncomputable def spT (tn : Nat → Nat) (tl : Nat) : Option g_Fr :=
  if 0 < rlen tn tl (tNeg tn tl) ∧ tN tn tl < TOP then
    (if tE tn tl < tl ∧ tn (tE tn tl) = 47 then
      (if 0 < rlen tn tl (tE tn tl + 1) ∧ tM tn tl < TOP ∧ tM tn tl ≠ 0 ∧ tE tn tl + 1 + rlen tn tl (tE tn tl + 1) = tl then some (tN tn tl, tM tn tl, tNeg tn tl) else none)
    else if tE tn tl = tl then some (tN tn tl, 1, tNeg tn tl) else none)
  else none
def TP (y : g_Y) (tn : Nat → Nat) : Prop := y.2.1.1 ≤ 1400 ∧ ∀ k, k < y.2.1.1 → tn k < 256 ∧ y.2.1.2.2 k = sb (tn k)
section TA
variable {K : g_Q9} {σb σ : g_S} {y : g_Y} {v : Nat → Nat} {tn : Nat → Nat}
theorem t_app1 (hK : kOK K) (S : St K σb σ y v) (ht : y.2.1.1 < 1400) (n : Nat) (x1 x2 : Int32) (h2 : ¬ x2 < 0) : ∃ σ', LX5_append_3 (n + 1) σ (K.2.2.1 4) x1 x2 = LX5_append_3 n σ' (K.2.2.1 4) x1 (x2 + (-8)) ∧ St K σb σ' (y.1, (y.2.1.1 + 1, y.2.1.2.1, upd y.2.1.2.2 y.2.1.1 (vp_nar .byte ((g_ishr x1 x2).toInt8.toInt32))), y.2.2) v := by
  obtain ⟨σ1, e1, S1⟩ := t_setT hK S ht (vp_nar .byte ((g_ishr x1 x2).toInt8.toInt32))
  obtain ⟨σ2, e2, S2⟩ := t_putT1 hK S1 (y.2.1.1 + 1)
  refine ⟨σ2, ?_, S2⟩
  rw [LX5_append_3, if_neg h2]
  simp only [rdT hK S, Option.bind_some, e1, rdT hK S1, g_let]
  rw [nI_1, e2]
  rfl
theorem t_append (hK : kOK K) (S : St K σb σ y v) (ht : y.2.1.1 + 4 ≤ 1400) (x : Int32) : ∃ σ' tb', fX5_append σ (K.2.2.1 4) x = some σ' ∧ St K σb σ' (y.1, (y.2.1.1 + 4, y.2.1.2.1, tb'), y.2.2) v ∧ (∀ k, k < y.2.1.1 → tb' k = y.2.1.2.2 k) ∧ ∀ j, j < 4 → tb' (y.2.1.1 + j) = sb (bn x j) := by
  obtain ⟨m, hm⟩ : ∃ m, g_fuel = m + 1 + 1 + 1 + 1 + 1 := ⟨g_fuel - 5, by have := g_fuel_ge; omega⟩
  obtain ⟨σ1, e1, S1⟩ := t_app1 hK S (by omega) (m + 1 + 1 + 1 + 1) x 24 (by decide)
  obtain ⟨σ2, e2, S2⟩ := t_app1 hK S1 (by show y.2.1.1 + 1 < 1400; omega) (m + 1 + 1 + 1) x (24 + (-8)) (by decide)
  obtain ⟨σ3, e3, S3⟩ := t_app1 hK S2 (by show y.2.1.1 + 1 + 1 < 1400; omega) (m + 1 + 1) x (24 + (-8) + (-8)) (by decide)
  obtain ⟨σ4, e4, S4⟩ := t_app1 hK S3 (by show y.2.1.1 + 1 + 1 + 1 < 1400; omega) (m + 1) x (24 + (-8) + (-8) + (-8)) (by decide)
  refine ⟨σ4, _, ?_, S4, ?_, ?_⟩
  · unfold fX5_append
    rw [hm, e1, e2, e3, e4, LX5_append_3, if_pos (by decide)]
  · intro k hk
    simp only [upd]
    rw [if_neg (by omega), if_neg (by omega), if_neg (by omega), if_neg (by omega)]
  · intro j hj
    simp only [upd, sb_low]
    rcases Nat.lt_or_ge j 1 with q | q
    · rw [show j = 0 by omega, if_neg (by omega), if_neg (by omega), if_neg (by omega), if_pos (by omega)]; rfl
    · rcases Nat.lt_or_ge j 2 with q | q
      · rw [show j = 1 by omega, if_neg (by omega), if_neg (by omega), if_pos (by omega)]; rfl
      · rcases Nat.lt_or_ge j 3 with q | q
        · rw [show j = 2 by omega, if_neg (by omega), if_pos (by omega)]; rfl
        · rw [show j = 3 by omega, if_pos (by omega)]; rfl
theorem t_take (hK : kOK K) (S : St K σb σ y v) (hT : TP y tn) {c : Int32} {cn : Nat} (hc : ∀ n, n < 256 → (sb n = c ↔ n = cn)) (ha : y.2.1.2.1 ≤ 1400) : ∃ σ', fX5_take σ (K.2.2.1 4) c = some (if y.2.1.2.1 < y.2.1.1 ∧ tn y.2.1.2.1 = cn then 1 else 0, σ') ∧ St K σb σ' (y.1, (y.2.1.1, (if y.2.1.2.1 < y.2.1.1 ∧ tn y.2.1.2.1 = cn then y.2.1.2.1 + 1 else y.2.1.2.1), y.2.1.2.2), y.2.2) v := by
  unfold fX5_take BX5_take_36
  obtain ⟨t1, t2⟩ := hT
  simp only [rdT hK S, Option.bind_some]
  by_cases h1 : y.2.1.2.1 < y.2.1.1
  · obtain ⟨t3, t4⟩ := t2 _ h1
    rw [if_neg (nI_ge h1 (by omega))]
    simp only [t_getT hK S (show y.2.1.2.1 < 1400 by omega), Option.bind_some, t4]
    by_cases h2 : tn y.2.1.2.1 = cn
    · rw [if_pos ((hc _ t3).mpr h2), if_pos ⟨h1, h2⟩, if_pos ⟨h1, h2⟩]
      obtain ⟨σ1, e1, S1⟩ := t_putT2 hK S (y.2.1.2.1 + 1)
      refine ⟨σ1, ?_, S1⟩
      rw [nI_1, e1]
      rfl
    · rw [if_neg (fun w => h2 ((hc _ t3).mp w)), if_neg (fun w => h2 w.2), if_neg (fun w => h2 w.2)]
      exact ⟨σ, rfl, S⟩
  · rw [if_pos (nI_le (by omega) (by omega)), if_neg (fun w => h1 w.1), if_neg (fun w => h1 w.1)]
    exact ⟨σ, rfl, S⟩
theorem t_isD (hK : kOK K) (S : St K σb σ y v) (hT : TP y tn) (ha : y.2.1.2.1 ≤ 1400) {β : Type} (X Z : Option β) : ((fX5_isAtDigit σ (K.2.2.1 4)).bind fun r => if r.1 = 0 then X else Z) = (if y.2.1.2.1 < y.2.1.1 ∧ isD (tn y.2.1.2.1) then Z else X) ∧ ∃ r, fX5_isAtDigit σ (K.2.2.1 4) = some (r, σ) ∧ (r = 0 ↔ ¬ (y.2.1.2.1 < y.2.1.1 ∧ isD (tn y.2.1.2.1))) := by
  have key : ∃ r, fX5_isAtDigit σ (K.2.2.1 4) = some (r, σ) ∧ (r = 0 ↔ ¬ (y.2.1.2.1 < y.2.1.1 ∧ isD (tn y.2.1.2.1))) := by
    unfold fX5_isAtDigit BX5_isAtDigit_43 BX5_isAtDigit_44
    obtain ⟨t1, t2⟩ := hT
    simp only [rdT hK S, Option.bind_some]
    by_cases h1 : y.2.1.2.1 < y.2.1.1
    · obtain ⟨t3, t4⟩ := t2 _ h1
      have hs := (sb_all _ t3).2.2.1
      rw [if_neg (nI_ge h1 (by omega))]
      simp only [t_getT hK S (show y.2.1.2.1 < 1400 by omega), Option.bind_some, t4]
      by_cases h2 : sb (tn y.2.1.2.1) < 48
      · rw [if_pos h2]
        exact ⟨0, g_if_pos (by simp), ⟨fun _ w => hs.mp (Or.inl h2) w.2, fun _ => rfl⟩⟩
      · rw [if_neg h2]
        by_cases h3 : 57 < sb (tn y.2.1.2.1)
        · rw [if_pos h3]
          exact ⟨0, g_if_pos (by simp), ⟨fun _ w => hs.mp (Or.inr h3) w.2, fun _ => rfl⟩⟩
        · rw [if_neg h3]
          refine ⟨1, g_if_pos (by simp), ⟨fun w => absurd w (by decide), fun w => absurd ⟨h1, ?_⟩ w⟩⟩
          by_cases hd : 48 ≤ tn y.2.1.2.1 ∧ tn y.2.1.2.1 ≤ 57
          · exact hd
          · rcases hs.mpr hd with q | q
            · exact absurd q h2
            · exact absurd q h3
    · rw [if_pos (nI_le (by omega) (by omega))]
      exact ⟨0, g_if_pos (by simp), ⟨fun _ w => h1 w.1, fun _ => rfl⟩⟩
  refine ⟨?_, key⟩
  obtain ⟨r, e, h⟩ := key
  rw [e]
  show (if r = 0 then X else Z) = _
  by_cases hd : y.2.1.2.1 < y.2.1.1 ∧ isD (tn y.2.1.2.1)
  · rw [if_pos hd, if_neg (fun w => h.mp w hd)]
  · rw [if_neg hd, if_pos (h.mpr hd)]
theorem t_zero (hK : kOK K) (S : St K σb σ y v) {i : Nat} (hi : i < 45) : ∃ σ', g_p σ 3 (K.1.1 i) 1 (.int 0) = some σ' ∧ St K σb σ' y (va_up v i 0) := by
  obtain ⟨a, b, c, d, s, lf, rfl, h⟩ := S
  rw [← nI_0]
  have hG := h.up (i := i) (n := 0) (g := lf i) (x := 0) ⟨Nat.zero_le _, (h i hi).2.1, Or.inl rfl, rfl⟩
  rw [up_same] at hG
  exact ⟨_, n_put hK.1 hi 0, a, b, c, d, _, _, rfl, hG⟩
end TA
