/-! the text -/
def chr (d : Nat) : Nat := if d < 10 then 48 + d else 87 + d
theorem chr_lt {d : Nat} (h : d < 36) : chr d < 128 := by unfold chr; split <;> omega
theorem g_ch_all : ∀ d, d < 36 → g_ch (nI d) = some (nI (chr d)) := by decide +kernel
theorem nar_c : ∀ c, c < 128 → vp_nar .char (nI c) = nI c := by decide +kernel
/-- e digits in radix r -/
def ND (r n e : Nat) : Prop := 0 < e ∧ n < r ^ e ∧ (e = 1 ∨ r ^ (e - 1) ≤ n)
theorem ND_uniq {r n a b : Nat} (hr : 2 ≤ r) (ha : ND r n a) (hb : ND r n b) : a = b := by
  have key : ∀ {a b : Nat}, ND r n a → ND r n b → ¬ a < b := fun {a b} ha hb h => by
    rcases hb.2.2 with q | q
    · have := ha.1; omega
    · have h1 : r ^ a ≤ r ^ (b - 1) := Nat.pow_le_pow_right (by omega) (by omega)
      have := ha.2.1
      omega
  rcases Nat.lt_trichotomy a b with q | q | q
  · exact absurd q (key ha hb)
  · exact q
  · exact absurd q (key hb ha)
theorem ND_of {r n e : Nat} (hn : n ≠ 0) (h0 : n / r ^ e = 0) (h1 : ∀ j, j < e → n / r ^ j ≠ 0) (hr : 2 ≤ r) : ND r n e := by
  have hp : ∀ k, 0 < r ^ k := fun k => Nat.pow_pos (by omega)
  have he : 0 < e := by
    rcases Nat.eq_zero_or_pos e with q | q
    · subst q; rw [Nat.pow_zero, Nat.div_one] at h0; exact absurd h0 hn
    · exact q
  refine ⟨he, ?_, ?_⟩
  · rcases Nat.div_eq_zero_iff.mp h0 with q | q
    · have := hp e; omega
    · exact q
  · refine Or.inr ?_
    rcases Nat.lt_or_ge n (r ^ (e - 1)) with q | q
    · exact absurd (Nat.div_eq_of_lt q) (h1 (e - 1) (by omega))
    · exact q
theorem ND_ex {r : Nat} (hr : 2 ≤ r) (n : Nat) : ∃ e, ND r n e := by
  by_cases hn : n = 0
  · exact ⟨1, by omega, by rw [hn, Nat.pow_one]; omega, Or.inl rfl⟩
  · have key : ∀ m, (∃ e, ND r n e) ∨ ∀ j, j < m → n / r ^ j ≠ 0 := by
      intro m
      induction m with
      | zero => exact Or.inr (fun j hj => by omega)
      | succ m ih =>
        rcases ih with h | h
        · exact Or.inl h
        · by_cases q : n / r ^ m = 0
          · exact Or.inl ⟨m, ND_of hn q h hr⟩
          · exact Or.inr (fun j hj => by
              rcases Nat.lt_or_ge j m with w | w
              · exact h j w
              · rw [show j = m by omega]; exact q)
    rcases key (n + 1) with h | h
    · exact h
    · exfalso
      apply h n (by omega)
      apply Nat.div_eq_of_lt
      have h1 : n < 2 ^ n := Nat.lt_two_pow_self
      have h2 : 2 ^ n ≤ r ^ n := Nat.pow_le_pow_left hr n
      omega
theorem ND_le {r n e : Nat} (hr : 2 ≤ r) (h : ND r n e) (hn : n < TOP) : e ≤ 2048 := by
  rcases h.2.2 with q | q
  · omega
  · rcases Nat.lt_or_ge 2048 e with w | w
    · have h1 : 2 ^ 2048 ≤ 2 ^ (e - 1) := Nat.pow_le_pow_right (by decide) (by omega)
      have h2 : 2 ^ (e - 1) ≤ r ^ (e - 1) := Nat.pow_le_pow_left hr _
      unfold TOP at hn
      omega
    · exact w
def TXT (x : Nat × (Nat → Int32)) (l : Nat) (g : Nat → Nat) : Prop := x.1 = l ∧ l ≤ 4098 ∧ ∀ k, k < l → x.2 k = nI (g k) ∧ g k < 128
theorem TXT.congr {x : Nat × (Nat → Int32)} {l : Nat} {g h : Nat → Nat} (t : TXT x l g) (e : ∀ k, k < l → g k = h k) : TXT x l h := ⟨t.1, t.2.1, fun k hk => by rw [← e k hk]; exact t.2.2 k hk⟩
section TX
variable {K : g_Q9} {σb : g_S}
theorem t_appX (hK : kOK K) {σ : g_S} {y : g_Y} {v : Nat → Nat} {l c : Nat} {g : Nat → Nat} (S : St K σb σ y v) (hX : TXT y.2.2 l g) (hl : l < 4098) (hc : c < 128) : ∃ σ' x', fX6_append σ (K.2.2.1 6) (nI c) = some σ' ∧ St K σb σ' (y.1, y.2.1, x') v ∧ TXT x' (l + 1) (fun k => if k = l then c else g k) := by
  obtain ⟨t1, t2, t3⟩ := hX
  obtain ⟨σ1, e1, S1⟩ := t_setX hK S (k := y.2.2.1) (by omega) (nI c)
  obtain ⟨σ2, e2, S2⟩ := t_putX1 hK S1 (y.2.2.1 + 1)
  refine ⟨σ2, _, ?_, S2, by show y.2.2.1 + 1 = _; omega, by omega, fun k hk => ?_⟩
  · unfold fX6_append BX6_append_32
    simp only [rdX hK S, t_lenX hK S, Option.bind_some]
    rw [if_neg (nI_ge (by omega) (by omega)), nar_c c hc]
    simp only [e1, Option.bind_some, rdX hK S1]
    rw [nI_1, e2]
    rfl
  · show (if k = y.2.2.1 then nI c else y.2.2.2 k) = nI (if k = l then c else g k) ∧ (if k = l then c else g k) < 128
    rw [t1]
    by_cases hk2 : k = l
    · rw [if_pos hk2, if_pos hk2]; exact ⟨rfl, hc⟩
    · rw [if_neg hk2, if_neg hk2]; exact t3 k (by omega)
def gN (st : Nat) (g : Nat → Nat) (n r : Nat) : Nat → Nat := fun k => if k < st then g k else chr (n / r ^ (k - st) % r)
theorem dig_in {m r D i : Nat} (hr : 0 < r) (hi : i < D) : (m % r ^ D) / r ^ i % r = m / r ^ i % r := by
  obtain ⟨k, rfl⟩ : ∃ k, D = i + (k + 1) := ⟨D - i - 1, by omega⟩
  rw [Nat.pow_add, Nat.mod_mul_right_div_self, Nat.pow_succ, Nat.mul_comm (r ^ k) r, Nat.mod_mul_right_mod]
theorem left_z {m r D i : Nat} (hr : 0 < r) (hi : i ≤ D) : m / r ^ i = 0 ↔ (m % r ^ D) / r ^ i = 0 ∧ m / r ^ D = 0 := by
  have hp : ∀ k, 0 < r ^ k := fun k => Nat.pow_pos hr
  constructor
  · intro h
    have h1 : m < r ^ i := by
      rcases Nat.div_eq_zero_iff.mp h with q | q
      · have := hp i; omega
      · exact q
    have h2 : r ^ i ≤ r ^ D := Nat.pow_le_pow_right hr hi
    exact ⟨by rw [Nat.mod_eq_of_lt (by omega)]; exact h, Nat.div_eq_of_lt (by omega)⟩
  · rintro ⟨h1, h2⟩
    have h3 : m < r ^ D := by
      rcases Nat.div_eq_zero_iff.mp h2 with q | q
      · have := hp D; omega
      · exact q
    rw [Nat.mod_eq_of_lt h3] at h1
    exact h1
theorem kz {n r k : Nat} (hr : 2 ≤ r) (hn : n < TOP) (h : n / r ^ k ≠ 0) : k < 2048 := by
  rcases Nat.lt_or_ge k 2048 with w | w
  · exact w
  · exfalso
    apply h
    apply Nat.div_eq_of_lt
    have h1 : 2 ^ 2048 ≤ 2 ^ k := Nat.pow_le_pow_right (by decide) w
    have h2 : 2 ^ k ≤ r ^ k := Nat.pow_le_pow_left hr _
    unfold TOP at hn
    omega
theorem t_groupX (hK : kOK K) {v : Nat → Nat} {st n r c0 D : Nat} {bl : Nat → Nat} {tp : Nat × Nat × (Nat → Int32)} {g : Nat → Nat} (hr : 2 ≤ r) (hr2 : r ≤ 36) (hD : D ≤ 31) (hR : v 44 = n / r ^ (c0 + D)) (hg : n / r ^ c0 % r ^ D < 2147483648) (hroom : st + 2048 ≤ 4098) (hn : n < TOP) :
    ∀ (f i : Nat) (σ : g_S) (x : Nat × (Nat → Int32)), D - i < f → i ≤ D → St K σb σ (bl, tp, x) v → TXT x (st + (c0 + i)) (gN st g n r) → (∀ j, j < c0 + i → n / r ^ j ≠ 0) →
      ∃ σ' x' m, LX6_appendGroup_6 f σ (K.2.2.1 6) (nI r) (nI D) (nI (n / r ^ c0 % r ^ D / r ^ i)) (nI i) = some σ' ∧ St K σb σ' (bl, tp, x') v ∧ m ≤ D ∧ TXT x' (st + (c0 + m)) (gN st g n r) ∧ (∀ j, j < c0 + m → n / r ^ j ≠ 0) ∧ (m = D ∨ n / r ^ (c0 + m) = 0) := by
  have i44 : (44 : Nat) < 45 := by decide
  intro f
  induction f with
  | zero => intro i σ x h; omega
  | succ f ih =>
    intro i σ x hf hi S hX hpos
    unfold LX6_appendGroup_6 BX6_appendGroup_52
    by_cases hiD : i = D
    · rw [if_pos (nI_le (by omega) (by omega))]
      exact ⟨σ, x, i, rfl, S, by omega, hX, hpos, Or.inl hiD⟩
    · rw [if_neg (nI_ge (by omega) (by omega))]
      have hlz := left_z (m := n / r ^ c0) (r := r) (D := D) (i := i) (by omega) hi
      have hdi := dig_in (m := n / r ^ c0) (r := r) (D := D) (i := i) (by omega) (by omega)
      have e1 : n / r ^ c0 / r ^ i = n / r ^ (c0 + i) := by rw [Nat.div_div_eq_div_mul, ← Nat.pow_add]
      have e2 : n / r ^ c0 / r ^ D = n / r ^ (c0 + D) := by rw [Nat.div_div_eq_div_mul, ← Nat.pow_add]
      rw [e1] at hdi
      rw [e1, e2, ← hR] at hlz
      have hle : n / r ^ c0 % r ^ D / r ^ i ≤ n / r ^ c0 % r ^ D := Nat.div_le_self _ _
      have enx : n / r ^ c0 % r ^ D / r ^ i / r = n / r ^ c0 % r ^ D / r ^ (i + 1) := by rw [Nat.div_div_eq_div_mul, ← Nat.pow_succ]
      generalize n / r ^ c0 % r ^ D / r ^ i = q at *
      have step : n / r ^ (c0 + i) ≠ 0 → ∃ σ' x' m, BX6_appendGroup_27 (LX6_appendGroup_6 f) σ (K.2.2.1 6) (nI r) (nI D) (nI q) (nI i) = some σ' ∧ St K σb σ' (bl, tp, x') v ∧ m ≤ D ∧ TXT x' (st + (c0 + m)) (gN st g n r) ∧ (∀ j, j < c0 + m → n / r ^ j ≠ 0) ∧ (m = D ∨ n / r ^ (c0 + m) = 0) := by
        intro hnz
        have hk := kz hr hn hnz
        have hd36 : q % r < 36 := by have := Nat.mod_lt q (show 0 < r by omega); omega
        obtain ⟨σ1, x1, f1, S1, X1⟩ := t_appX hK S hX (c := chr (q % r)) (by omega) (chr_lt hd36)
        have X2 : TXT x1 (st + (c0 + (i + 1))) (gN st g n r) := by
          refine TXT.congr X1 (fun k hk => ?_)
          show (if k = st + (c0 + i) then _ else _) = _
          by_cases h : k = st + (c0 + i)
          · rw [if_pos h, h]
            unfold gN
            rw [if_neg (by omega), show st + (c0 + i) - st = c0 + i by omega, hdi]
          · rw [if_neg h]
        obtain ⟨σ', x', m, g1, g2, g3, g4, g5, g6⟩ := ih (i + 1) σ1 x1 (by omega) (by omega) S1 X2 (fun j hj => by
          rcases Nat.lt_or_ge j (c0 + i) with w | w
          · exact hpos j w
          · rw [show j = c0 + i by omega]; exact hnz)
        refine ⟨σ', x', m, ?_, g2, g3, g4, g5, g6⟩
        unfold BX6_appendGroup_27
        have hr0 : ¬ nI r = 0 := fun w => by have := (ja_e0 (by omega)).mp w; omega
        have erem : g_irem (nI q) (nI r) = nI (q % r) := pk_rem (by omega) (by omega) (by omega)
        rw [g_if_pos hr0, erem, g_ch_all _ hd36]
        simp only [Option.bind_some, rdX hK S, f1, g_let]
        rw [g_if_pos hr0, pk_div (by omega) (by omega) (by omega), nI_1, enx]
        exact g1
      by_cases hq : 0 < q
      · rw [if_pos (by rw [show (0 : Int32) = nI 0 from rfl]; exact nI_lt hq (by omega))]
        exact step (fun w => by have := (hlz.mp w).1; omega)
      · rw [if_neg (by rw [show (0 : Int32) = nI 0 from rfl]; exact nI_nlt (by omega) (by omega))]
        simp only [rdX hK S, Option.bind_some, S.n hK i44, t_isZero hK S i44]
        by_cases hz : v 44 = 0
        · rw [if_neg (by rw [if_pos hz]; decide)]
          exact ⟨σ, x, i, rfl, S, hi, hX, hpos, Or.inr (hlz.mpr ⟨by omega, hz⟩)⟩
        · rw [if_pos (by rw [if_neg hz])]
          exact step (fun w => hz (hlz.mp w).2)
/-- the characters from st on, turned -/
def gT (st l : Nat) (g : Nat → Nat) : Nat → Nat := fun k => if k < st then g k else g (l - 1 - (k - st))
theorem t_turnL (hK : kOK K) {v : Nat → Nat} {st l : Nat} {bl : Nat → Nat} {tp : Nat × Nat × (Nat → Int32)} {g : Nat → Nat} (hst : st < l) :
    ∀ (f j : Nat) (σ : g_S) (x : Nat × (Nat → Int32)) (h : Nat → Nat), l - j < f → 2 * j ≤ l - st → St K σb σ (bl, tp, x) v → TXT x l h → (∀ k, k < l → h k = if (st ≤ k ∧ k < st + j) ∨ l - j ≤ k then g (l - 1 - (k - st)) else g k) →
      ∃ σ' x', LX6_turn_9 f σ (K.2.2.1 6) (nI (st + j)) (nI (l - j) - 1) = some σ' ∧ St K σb σ' (bl, tp, x') v ∧ TXT x' l (gT st l g) := by
  intro f
  induction f with
  | zero => intro j σ x h hf; omega
  | succ f ih =>
    intro j σ x h hf hj S hX hh
    obtain ⟨t1, t2, t3⟩ := id hX
    unfold LX6_turn_9
    rw [nI_s1 (show 1 ≤ l - j by omega)]
    by_cases hlt : st + j < l - j - 1
    · rw [if_neg (nI_ge hlt (by omega))]
      obtain ⟨a1, a2⟩ := t3 (st + j) (by omega)
      obtain ⟨b1, b2⟩ := t3 (l - j - 1) (by omega)
      obtain ⟨σ1, e1, S1⟩ := t_setX hK S (k := st + j) (by omega) (nI (h (l - j - 1)))
      obtain ⟨σ2, e2, S2⟩ := t_setX hK S1 (k := l - j - 1) (by omega) (nI (h (st + j)))
      have ga := t_getX hK S (k := st + j) (by omega)
      have gb := t_getX hK S (k := l - j - 1) (by omega)
      simp only [a1] at ga
      simp only [b1] at gb
      simp only [rdX hK S, Option.bind_some, ga, gb, g_let]
      rw [nar_c _ b2, nar_c _ a2]
      simp only [e1, Option.bind_some, rdX hK S1, e2]
      rw [nI_1, ja_m1]
      have X2 : TXT (x.1, upd (upd x.2 (st + j) (nI (h (l - j - 1)))) (l - j - 1) (nI (h (st + j)))) l (fun k => if k = l - j - 1 then h (st + j) else if k = st + j then h (l - j - 1) else h k) := by
        refine ⟨t1, t2, fun k hk => ?_⟩
        show (if k = l - j - 1 then nI (h (st + j)) else if k = st + j then nI (h (l - j - 1)) else x.2 k) = nI (if k = l - j - 1 then h (st + j) else if k = st + j then h (l - j - 1) else h k) ∧ (if k = l - j - 1 then h (st + j) else if k = st + j then h (l - j - 1) else h k) < 128
        by_cases w1 : k = l - j - 1
        · rw [if_pos w1, if_pos w1]; exact ⟨rfl, a2⟩
        · rw [if_neg w1, if_neg w1]
          by_cases w2 : k = st + j
          · rw [if_pos w2, if_pos w2]; exact ⟨rfl, b2⟩
          · rw [if_neg w2, if_neg w2]; exact t3 k hk
      have S2' : St K σb σ2 (bl, tp, (x.1, upd (upd x.2 (st + j) (nI (h (l - j - 1)))) (l - j - 1) (nI (h (st + j))))) v := S2
      obtain ⟨σ', x', g1, g2, g3⟩ := ih (j + 1) σ2 _ _ (by omega) (by omega) S2' X2 (fun k hk => by
        by_cases w1 : k = l - j - 1
        · rw [if_pos w1, hh (st + j) (by omega), if_neg (by omega), if_pos (by omega)]
          congr 1
          omega
        · rw [if_neg w1]
          by_cases w2 : k = st + j
          · rw [if_pos w2, hh (l - j - 1) (by omega), if_neg (by omega), if_pos (by omega)]
            congr 1
            omega
          · rw [if_neg w2, hh k hk]
            by_cases w3 : (st ≤ k ∧ k < st + j) ∨ l - j ≤ k
            · rw [if_pos w3, if_pos (by omega)]
            · rw [if_neg w3, if_neg (by omega)])
      refine ⟨σ', x', ?_, g2, g3⟩
      rw [show st + j + 1 = st + (j + 1) by omega, show l - j - 1 = l - (j + 1) by omega]
      exact g1
    · rw [if_pos (nI_le (by omega) (by omega))]
      refine ⟨σ, x, rfl, S, TXT.congr hX (fun k hk => ?_)⟩
      rw [hh k hk]
      unfold gT
      by_cases w : k < st
      · rw [if_pos w, if_neg (by omega)]
      · rw [if_neg w]
        by_cases w2 : (st ≤ k ∧ k < st + j) ∨ l - j ≤ k
        · rw [if_pos w2]
        · rw [if_neg w2]
          congr 1
          omega
theorem t_turn (hK : kOK K) {σ : g_S} {v : Nat → Nat} {st l : Nat} {bl : Nat → Nat} {tp : Nat × Nat × (Nat → Int32)} {x : Nat × (Nat → Int32)} {g : Nat → Nat} (hst : st < l) (S : St K σb σ (bl, tp, x) v) (hX : TXT x l g) : ∃ σ' x', fX6_turn σ (K.2.2.1 6) (nI st) = some σ' ∧ St K σb σ' (bl, tp, x') v ∧ TXT x' l (gT st l g) := by
  have hl := hX.2.1
  obtain ⟨σ', x', g1, g2, g3⟩ := t_turnL hK (g := g) hst g_fuel 0 σ x g (fuel_ge (by omega)) (by omega) S hX (fun k hk => by rw [if_neg (by omega)])
  refine ⟨σ', x', ?_, g2, g3⟩
  unfold fX6_turn
  simp only [rdX hK S, Option.bind_some, g_let]
  rw [hX.1]
  exact g1
end TX
