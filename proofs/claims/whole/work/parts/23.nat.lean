/-! THE DESK'S NATURALS: what each method of Natural does, in values. -/
/-- natural i: n limbs of g, in canonical form, of value v -/
def gw (L : g_L) (i n : Nat) (g : Nat → Nat) (v : Nat) : Prop := n ≤ L.2.2 i ∧ (∀ k, g k < 2147483648) ∧ wc g n ∧ wv 2147483648 g n = v
def GV (L : g_L) (s : Nat → Nat) (lf : Nat → Nat → Nat) (v : Nat → Nat) : Prop := ∀ i, i < 45 → gw L i (s i) (lf i) (v i)
theorem GV.up {L : g_L} {s : Nat → Nat} {lf : Nat → Nat → Nat} {v : Nat → Nat} {i n x : Nat} {g : Nat → Nat} (h : GV L s lf v) (hg : gw L i n g x) : GV L (va_up s i n) (va_up lf i g) (va_up v i x) := fun j hj => by
  by_cases e : j = i
  · subst e
    rw [va_up_self, va_up_self, va_up_self]
    exact hg
  · rw [va_up_ne _ _ e, va_up_ne _ _ e, va_up_ne _ _ e]
    exact h j hj
theorem up_same {α : Type} (f : Nat → α) (i : Nat) : va_up f i (f i) = f := funext fun j => by
  by_cases e : j = i
  · rw [e, va_up_self]
  · rw [va_up_ne _ _ e]
theorem up_up {α : Type} (f : Nat → α) (i : Nat) (x y : α) : va_up (va_up f i x) i y = va_up f i y := bx_uu f i x y
theorem fuel_ge {n : Nat} (h : n < 1000000) : n < g_fuel := Nat.lt_of_lt_of_le h g_fuel_ge
section NT
variable {L : g_L} {σ0 : g_S} {s : Nat → Nat} {lf : Nat → Nat → Nat} {v : Nat → Nat}
theorem p_trimL (hL : g_ok L) {i : Nat} (hi : i < 45) : ∀ (n c : Nat) (s : Nat → Nat), c < n → c ≤ L.2.2 i → (∀ k, k < c → lf i k < 2147483648) → s i = c → LX3_trim_5 n (mkN L σ0 s lf) (L.1 i) = some (mkN L σ0 (va_up s i (wt (lf i) c)) lf) := by
  have hr := (hL.2.2.2 i hi).2
  intro n
  induction n with
  | zero => intro c s h; omega
  | succ n ih =>
    intro c s hn hc hb hs
    cases c with
    | zero =>
      unfold LX3_trim_5 BX3_trim_39
      simp only [n_size hL hi, hs, Option.bind_some]
      rw [if_pos (by decide), show wt (lf i) 0 = s i from hs.symm, up_same]
    | succ c =>
      unfold LX3_trim_5 BX3_trim_39
      simp only [n_size hL hi, hs, Option.bind_some, n_row hL hi]
      rw [if_neg (nI_nle (by omega) (by omega)), nI_pred, n_get hL hi (by omega)]
      simp only [Option.bind_some]
      have hlf := hb c (by omega)
      unfold wt
      by_cases h0 : lf i c = 0
      · rw [if_pos (by rw [h0]; rfl), if_pos h0, n_put hL hi]
        simp only [Option.bind_some]
        rw [ih c _ (by omega) (by omega) (fun k hk => hb k (by omega)) (va_up_self _ _ _), up_up]
      · rw [if_neg (fun e => h0 ((ja_e0 (by omega)).mp e)), if_neg h0, ← hs, up_same]
theorem p_trim (hL : g_ok L) {i : Nat} (hi : i < 45) {c : Nat} (hc : c ≤ L.2.2 i) (hb : ∀ k, k < c → lf i k < 2147483648) : fX3_trim (mkN L σ0 s lf) (L.1 i) (nI c) = some (mkN L σ0 (va_up s i (wt (lf i) c)) lf) := by
  have hr := (hL.2.2.2 i hi).2
  unfold fX3_trim
  rw [n_put hL hi]
  simp only [Option.bind_some]
  rw [p_trimL hL hi g_fuel c _ (fuel_ge (by omega)) hc hb (va_up_self _ _ _), up_up]
/-- a limb, 0 above the highest -/
def la (s : Nat → Nat) (lf : Nat → Nat → Nat) (i k : Nat) : Nat := if k < s i then lf i k else 0
theorem p_limbAt (hL : g_ok L) {i k : Nat} (hi : i < 45) (hs : s i ≤ L.2.2 i) (hk : k < 2147483648) : fX3_limbAt (mkN L σ0 s lf) (L.1 i) (nI k) = some (nI (la s lf i k), mkN L σ0 s lf) := by
  have hr := (hL.2.2.2 i hi).2
  unfold fX3_limbAt BX3_limbAt_21 BX3_limbAt_22 la
  rw [if_neg (nI_pos hk)]
  simp only [n_size hL hi, n_row hL hi, Option.bind_some]
  by_cases h : k < s i
  · rw [if_neg (nI_ge h (by omega)), n_get hL hi (by omega), if_pos h]
    rfl
  · rw [if_pos (nI_le (by omega) hk), if_neg h]
    rfl
theorem p_isZero (hL : g_ok L) {i : Nat} (hi : i < 45) (hs : s i ≤ L.2.2 i) : fX3_isZero (mkN L σ0 s lf) (L.1 i) = some (if s i = 0 then 1 else 0, mkN L σ0 s lf) := by
  have hr := (hL.2.2.2 i hi).2
  unfold fX3_isZero BX3_isZero_12
  simp only [n_size hL hi, Option.bind_some]
  by_cases h : s i = 0
  · rw [if_pos ((ja_e0 (by omega)).mpr h), if_pos h]; exact g_if_pos (by simp)
  · rw [if_neg (fun e => h ((ja_e0 (by omega)).mp e)), if_neg h]; exact g_if_pos (by simp)
theorem p_isOne (hL : g_ok L) {i : Nat} (hi : i < 45) (h : GV L s lf v) : fX3_isOne (mkN L σ0 s lf) (L.1 i) = some (if v i = 1 then 1 else 0, mkN L σ0 s lf) := by
  have hr := hL.2.2.2 i hi
  obtain ⟨h1, h2, h3, h4⟩ := h i hi
  have b0 := h2 0
  unfold fX3_isOne BX3_isOne_22 BX3_isOne_23
  simp only [n_size hL hi, n_row hL hi, Option.bind_some]
  by_cases hs : s i = 1
  · have hv : v i = lf i 0 := by rw [← h4, hs, wv_s, wv_0]; simp
    have eg := n_get (σ0 := σ0) (s := s) (lf := lf) hL hi (show 0 < L.2.2 i by omega)
    rw [nI_0] at eg
    rw [if_pos ((ja_e1 (by omega)).mpr hs), eg]
    simp only [Option.bind_some]
    by_cases h0 : lf i 0 = 1
    · rw [if_pos ((ja_e1 (by omega)).mpr h0), if_pos (show v i = 1 by omega)]; exact g_if_pos (by simp)
    · rw [if_neg (fun e => h0 ((ja_e1 (by omega)).mp e)), if_neg (show ¬ v i = 1 by omega)]; exact g_if_pos (by simp)
  · rw [if_neg (fun e => hs ((ja_e1 (by omega)).mp e))]
    have hv : v i ≠ 1 := by
      intro e
      rcases Nat.lt_or_ge 1 (s i) with q | q
      · have := wc_low (B := 2147483648) h3 (by omega)
        have h5 : 2147483648 ^ 1 ≤ 2147483648 ^ (s i - 1) := Nat.pow_le_pow_right (by decide) (by omega)
        rw [Nat.pow_one] at h5
        omega
      · rw [show s i = 0 by omega, wv_0] at h4
        omega
    rw [if_neg hv]; exact g_if_pos (by simp)
theorem p_become (hL : g_ok L) {i j : Nat} (hi : i < 45) (hj : j < 45) (h1 : s j ≤ L.2.2 i) (h2 : s j ≤ L.2.2 j) : fX3_become (mkN L σ0 s lf) (L.1 i) (L.1 j) = some (mkN L σ0 (va_up s i (s j)) (va_up lf i (va_cpy (lf j) (lf i) 0 0 (s j)))) := by
  have hr := (hL.2.2.2 i hi).2
  unfold fX3_become
  simp only [n_row hL hi, n_row hL hj, n_size hL hj, Option.bind_some, n_copy hL hi hj h1 h2, n_put hL hi]
theorem gw_copy {i j x : Nat} (hi : i < 45) (h : gw L j (s j) (lf j) x) (hb : ∀ k, lf i k < 2147483648) (h1 : s j ≤ L.2.2 i) : gw L i (s j) (va_cpy (lf j) (lf i) 0 0 (s j)) x := by
  obtain ⟨-, g2, g3, g4⟩ := h
  have e : ∀ k, k < s j → va_cpy (lf j) (lf i) 0 0 (s j) k = lf j k := fun k hk => by
    rw [pk_cpy_in (by omega) (by omega)]
    congr 1
    omega
  refine ⟨h1, fun k => ?_, ?_, by rw [wv_congr e]; exact g4⟩
  · unfold va_cpy
    split
    · exact g2 _
    · exact hb k
  · rcases g3 with g3 | g3
    · exact Or.inl g3
    · by_cases hz : s j = 0
      · exact Or.inl hz
      · refine Or.inr ?_
        rw [e _ (by omega)]
        exact g3
theorem q_become (hL : g_ok L) {i j : Nat} (hi : i < 45) (hj : j < 45) (h : GV L s lf v) (h1 : s j ≤ L.2.2 i) : ∃ s' lf', fX3_become (mkN L σ0 s lf) (L.1 i) (L.1 j) = some (mkN L σ0 s' lf') ∧ GV L s' lf' (va_up v i (v j)) :=
  ⟨_, _, p_become hL hi hj h1 (h j hj).1, h.up (gw_copy hi (h j hj) (h i hi).2.1 h1)⟩
end NT
