/-! the reference: write -/
def XT (x : (Nat → Nat) × Nat) (l : Nat) (g : Nat → Nat) : Prop := x.2 = l ∧ l ≤ 4098 ∧ ∀ k, k < l → x.1 k = g k ∧ g k < 128
theorem XT.congr {x : (Nat → Nat) × Nat} {l : Nat} {g h : Nat → Nat} (t : XT x l g) (e : ∀ k, k < l → g k = h k) : XT x l h := ⟨t.1, t.2.1, fun k hk => by rw [← e k hk]; exact t.2.2 k hk⟩
section MZ
variable {Q : Nat → Nat} {σ0 : g_S} {v : Nat → Nat} {m : g_M} {za : Nat} {zb zc : Nat → Nat} {zd : Nat}
theorem v_char (hQ : kM Q) {σ : g_S} {x : (Nat → Nat) × Nat} (M : MSt Q σ0 σ (za, zb, zc, zd, x) v) {l c : Nat} {g : Nat → Nat} (hX : XT x l g) (hl : l < 4098) (hc : c < 128) : ∃ σ' x', fX8_character σ (Q 0) (nI c) = some σ' ∧ MSt Q σ0 σ' (za, zb, zc, zd, x') v ∧ XT x' (l + 1) (fun k => if k = l then c else g k) := by
  obtain ⟨t1, t2, t3⟩ := hX
  obtain ⟨σ1, e1, M1⟩ := v_setx hQ M (k := x.2) (by omega) c
  obtain ⟨σ2, e2, M2⟩ := v_p7 hQ M1 (x.2 + 1)
  refine ⟨σ2, (va_up x.1 x.2 c, x.2 + 1), ?_, M2, by show x.2 + 1 = _; omega, by omega, fun k hk => ?_⟩
  · unfold fX8_character
    simp only [rS hQ M, e1, Option.bind_some, rS hQ M1]
    rw [nI_1, e2]
    rfl
  · show va_up x.1 x.2 c k = (if k = l then c else g k) ∧ (if k = l then c else g k) < 128
    rw [t1]
    by_cases hk2 : k = l
    · rw [if_pos hk2, hk2, va_up_self]; exact ⟨rfl, hc⟩
    · rw [if_neg hk2, va_up_ne _ _ hk2]; exact t3 k (by omega)
theorem v_turnL (hQ : kM Q) {st l : Nat} {g : Nat → Nat} (hst : st < l) :
    ∀ (f j : Nat) (σ : g_S) (x : (Nat → Nat) × Nat) (h : Nat → Nat), l - j < f → 2 * j ≤ l - st → MSt Q σ0 σ (za, zb, zc, zd, x) v → XT x l h → (∀ k, k < l → h k = if (st ≤ k ∧ k < st + j) ∨ l - j ≤ k then g (l - 1 - (k - st)) else g k) →
      ∃ σ' x', LX8_writes_57 f σ (Q 0) (nI st) (nI j) = some σ' ∧ MSt Q σ0 σ' (za, zb, zc, zd, x') v ∧ XT x' l (gT st l g) := by
  intro f
  induction f with
  | zero => intro j σ x h hf; omega
  | succ f ih =>
    intro j σ x h hf hj M hX hh
    obtain ⟨t1, t2, t3⟩ := id hX
    rw [LX8_writes_57]
    simp only [rS hQ M, Option.bind_some]
    have ed : (nI l - nI st) / 2 = nI ((l - st) / 2) := by rw [pk_sub (by omega)]; exact pk_div (d := 2) (by omega) (by decide) (by decide)
    rw [t1, ed]
    by_cases hlt : j < (l - st) / 2
    · rw [if_neg (nI_ge hlt (by omega)), nI_s1 (show 1 ≤ l by omega), pk_sub (show j ≤ l - 1 by omega), nI_add]
      obtain ⟨a1, a2⟩ := t3 (st + j) (by omega)
      obtain ⟨b1, b2⟩ := t3 (l - 1 - j) (by omega)
      obtain ⟨σ1, e1, M1⟩ := v_setx hQ M (k := st + j) (by omega) (h (l - 1 - j))
      obtain ⟨σ2, e2, M2⟩ := v_setx hQ M1 (k := l - 1 - j) (by omega) (h (st + j))
      have ga := v_txt hQ M (k := st + j) (by omega)
      have gb := v_txt hQ M (k := l - 1 - j) (by omega)
      simp only [a1] at ga
      simp only [b1] at gb
      simp only [Option.bind_some, ga, gb, g_let, e1, rS hQ M1]
      rw [t1, nI_s1 (show 1 ≤ l by omega), pk_sub (show j ≤ l - 1 by omega), e2]
      simp only [Option.bind_some]
      rw [nI_1]
      have X2 : XT (va_up (va_up x.1 (st + j) (h (l - 1 - j))) (l - 1 - j) (h (st + j)), x.2) l (fun k => if k = l - 1 - j then h (st + j) else if k = st + j then h (l - 1 - j) else h k) := by
        refine ⟨t1, t2, fun k hk => ?_⟩
        show va_up (va_up x.1 (st + j) (h (l - 1 - j))) (l - 1 - j) (h (st + j)) k = (if k = l - 1 - j then h (st + j) else if k = st + j then h (l - 1 - j) else h k) ∧ (if k = l - 1 - j then h (st + j) else if k = st + j then h (l - 1 - j) else h k) < 128
        by_cases w1 : k = l - 1 - j
        · rw [if_pos w1, w1, va_up_self]; exact ⟨rfl, a2⟩
        · rw [if_neg w1, va_up_ne _ _ w1]
          by_cases w2 : k = st + j
          · rw [if_pos w2, w2, va_up_self]; exact ⟨rfl, b2⟩
          · rw [if_neg w2, va_up_ne _ _ w2]; exact t3 k hk
      exact ih (j + 1) σ2 _ _ (by omega) (by omega) M2 X2 (fun k hk => by
        by_cases w1 : k = l - 1 - j
        · rw [if_pos w1, hh (st + j) (by omega), if_neg (by omega), if_pos (by omega)]
          congr 1
          omega
        · rw [if_neg w1]
          by_cases w2 : k = st + j
          · rw [if_pos w2, hh (l - 1 - j) (by omega), if_neg (by omega), if_pos (by omega)]
            congr 1
            omega
          · rw [if_neg w2, hh k hk]
            by_cases w3 : (st ≤ k ∧ k < st + j) ∨ l - j ≤ k
            · rw [if_pos w3, if_pos (by omega)]
            · rw [if_neg w3, if_neg (by omega)])
    · rw [if_pos (nI_le (by omega) (by omega))]
      refine ⟨σ, x, rfl, M, hX.congr (fun k hk => ?_)⟩
      rw [hh k hk]
      unfold gT
      by_cases w : k < st
      · rw [if_pos w, if_neg (by omega)]
      · rw [if_neg w]
        by_cases w2 : (st ≤ k ∧ k < st + j) ∨ l - j ≤ k
        · rw [if_pos w2]
        · rw [if_neg w2]
          congr 1
          omega
theorem v_writesL (hQ : kM Q) {st r n : Nat} {g : Nat → Nat} (hr : 2 ≤ r) (hr2 : r ≤ 36) (hn : n < TOP) (hroom : st + 2048 ≤ 4098) :
    ∀ (f j : Nat) (σ : g_S) (x : (Nat → Nat) × Nat) (v : Nat → Nat), 2049 - j < f → MSt Q σ0 σ (za, zb, zc, zd, x) v → v 37 = n / r ^ j → (j = 0 ∨ n / r ^ j ≠ 0) → XT x (st + j) (gN st g n r) →
      ∃ σ' x' v', LX8_writes_12 f σ (Q 0) (nI r) (nI st) = some σ' ∧ MSt Q σ0 σ' (za, zb, zc, zd, x') v' ∧ (∀ i, i ≠ 37 → v' i = v i) ∧ XT x' (st + nd r n) (gD st n r (nd r n) g) := by
  intro f
  induction f with
  | zero => intro j σ x v hf; omega
  | succ f ih =>
    intro j σ x v hf M hv hj hX
    have hj2 : j < 2048 := by
      rcases hj with q | q
      · omega
      · exact kz hr hn q
    obtain ⟨σ1, e1, M1⟩ := v_div hQ M (i := 37) (d := r) (by decide) (by decide) (by omega) (by omega)
    have en : n / r ^ j / r = n / r ^ (j + 1) := by rw [Nat.div_div_eq_div_mul, ← Nat.pow_succ]
    rw [hv] at e1 M1
    rw [en] at M1
    have hd : n / r ^ j % r < r := Nat.mod_lt _ (by omega)
    obtain ⟨σ2, x2, e2, M2, X2⟩ := v_char hQ M1 hX (c := chr (n / r ^ j % r)) (by omega) (chr_lt (by omega))
    have X2' : XT x2 (st + (j + 1)) (gN st g n r) := by
      refine X2.congr (fun k hk => ?_)
      show (if k = st + j then _ else _) = _
      by_cases h : k = st + j
      · rw [if_pos h, h]
        unfold gN
        rw [if_neg (by omega), show st + j - st = j by omega]
      · rw [if_neg h]
    have e3 := v_isZero hQ M2 (x := 37) (by decide) (by decide)
    rw [va_up_self] at e3
    rw [LX8_writes_12, show (37 : Int32) = nI 37 from rfl, show (10 : Int32) = nI 10 from rfl]
    simp only [rS hQ M, e1, Option.bind_some]
    have key : ∃ σ' x' v', BX8_writes_42 (LX8_writes_12 f) σ1 (Q 0) (nI r) (nI st) (Q 0) (nI (chr (n / r ^ j % r))) = some σ' ∧ MSt Q σ0 σ' (za, zb, zc, zd, x') v' ∧ (∀ i, i ≠ 37 → v' i = v i) ∧ XT x' (st + nd r n) (gD st n r (nd r n) g) := by
      unfold BX8_writes_42
      rw [show (37 : Int32) = nI 37 from rfl]
      simp only [rS hQ M1, e2, Option.bind_some, rS hQ M2, e3]
      by_cases hz : n / r ^ (j + 1) = 0
      · rw [if_neg (by rw [if_pos hz]; decide)]
        have hp : ∀ k, 0 < r ^ k := fun k => Nat.pow_pos (by omega)
        have hND : ND r n (j + 1) := by
          refine ⟨by omega, ?_, ?_⟩
          · rcases Nat.div_eq_zero_iff.mp hz with q | q
            · have := hp (j + 1); omega
            · exact q
          · rcases hj with q | q
            · exact Or.inl (by omega)
            · refine Or.inr ?_
              rw [Nat.add_sub_cancel]
              rcases Nat.lt_or_ge n (r ^ j) with w | w
              · exact absurd (Nat.div_eq_of_lt w) q
              · exact w
        have hnd : nd r n = j + 1 := ND_uniq hr (nd_is hr n) hND
        obtain ⟨σ3, x3, e4, M3, X3⟩ := v_turnL (v := va_up v 37 (n / r ^ (j + 1))) hQ (st := st) (l := st + (j + 1)) (g := gN st g n r) (by omega) g_fuel 0 σ2 x2 (gN st g n r) (fuel_ge (by omega)) (by omega) M2 X2' (fun k hk => by rw [if_neg (by omega)])
        rw [nI_0] at e4
        rw [hnd]
        refine ⟨σ3, x3, _, e4, M3, fun i hi => va_up_ne _ _ hi, X3.congr (fun k hk => ?_)⟩
        unfold gT gD
        by_cases w : k < st
        · rw [if_pos w, if_pos w]
          unfold gN
          rw [if_pos w]
        · rw [if_neg w, if_neg w]
          unfold gN
          rw [if_neg (by omega), show st + (j + 1) - 1 - (k - st) - st = j + 1 - 1 - (k - st) by omega]
      · rw [if_pos (by rw [if_neg hz])]
        obtain ⟨σ3, x3, v3, e4, M3, g3, X3⟩ := ih (j + 1) σ2 x2 _ (by omega) M2 (va_up_self _ _ _) (Or.inr hz) X2'
        exact ⟨σ3, x3, v3, e4, M3, fun i hi => by rw [g3 i hi, va_up_ne _ _ hi], X3⟩
    unfold chr at key
    by_cases h10 : n / r ^ j % r < 10
    · rw [if_pos h10] at key
      rw [if_neg (nI_ge h10 (by omega)), show (48 : Int32) = nI 48 from rfl, nI_add]
      exact key
    · rw [if_neg h10] at key
      rw [if_pos (nI_le (by omega) (by omega)), show (87 : Int32) = nI 87 from rfl, nI_add]
      exact key
theorem v_writes (hQ : kM Q) {σ : g_S} {x : (Nat → Nat) × Nat} {st r i : Nat} {g : Nat → Nat} (M : MSt Q σ0 σ (za, zb, zc, zd, x) v) (hi : i < 32) (hr : 2 ≤ r) (hr2 : r ≤ 36) (hn : v i < TOP) (hX : XT x st g) (hroom : st + 2048 ≤ 4098) :
    ∃ σ' x' v', fX8_writes σ (Q 0) (nI i) (nI r) = some σ' ∧ MSt Q σ0 σ' (za, zb, zc, zd, x') v' ∧ (∀ j, j ≠ 37 → v' j = v j) ∧ XT x' (st + nd r (v i)) (gD st (v i) r (nd r (v i)) g) := by
  obtain ⟨σ1, e1, M1⟩ := v_copy hQ M (x := i) (w := 37) (by omega) (by decide) (by omega) (by omega)
  obtain ⟨σ2, x2, v2, e2, M2, g2, X2⟩ := v_writesL hQ (st := st) (r := r) (n := v i) (g := g) hr hr2 hn hroom g_fuel 0 σ1 x _ (fuel_ge (by omega)) M1 (by rw [va_up_self, Nat.pow_zero, Nat.div_one]) (Or.inl rfl) (hX.congr (fun k hk => by unfold gN; rw [if_pos hk]))
  refine ⟨σ2, x2, v2, ?_, M2, fun j hj => by rw [g2 j hj, va_up_ne _ _ hj], X2⟩
  unfold fX8_writes
  rw [show (37 : Int32) = nI 37 from rfl]
  simp only [rS hQ M, e1, Option.bind_some, rS hQ M1]
  rw [hX.1]
  exact e2
theorem r_write45 (hQ : kM Q) {σ : g_S} {x : (Nat → Nat) × Nat} {p r : Nat} (M : MSt Q σ0 σ (za, zb, zc, zd, x) v) (hp : p < 16) (hr : 2 ≤ r) (hr2 : r ≤ 36) (hx : fOK (v (2 * p), v (2 * p + 1), zb p)) (hX : XT x (zb p) (fun _ => 45)) :
    ∃ σ' x' v', BX8_write_45 σ (Q 0) (nI p) (nI r) = some (nI (spW (v (2 * p), v (2 * p + 1), zb p) r).1, σ') ∧ MSt Q σ0 σ' (za, zb, zc, zd, x') v' ∧ (∀ j, j ≠ 37 → v' j = v j) ∧ XT x' (spW (v (2 * p), v (2 * p + 1), zb p) r).1 (spW (v (2 * p), v (2 * p + 1), zb p) r).2 := by
  obtain ⟨x1, x2, x3, x4, x5, x6⟩ := hx
  simp only at x1 x2 x3 x4 x5 x6
  have nle := ND_le hr (nd_is hr (v (2 * p))) x1
  obtain ⟨σ3, xn, v3, e3, M3, f3, X3⟩ := v_writes hQ (i := 2 * p) M (by omega) hr hr2 x1 hX (by omega)
  have k1 : v3 (2 * p + 1) = v (2 * p + 1) := f3 _ (by omega)
  have ew := v_isWhole hQ M3 hp
  rw [k1] at ew
  unfold BX8_write_45 BX8_write_77 spW
  rw [two_nI, nI_1]
  simp only [rS hQ M, e3, Option.bind_some, rS hQ M3, ew]
  by_cases hd : v (2 * p + 1) = 1
  · rw [if_neg (by rw [if_pos hd]; decide), if_pos hd]
    refine ⟨σ3, xn, v3, ?_, M3, f3, X3⟩
    rw [X3.1]
  · rw [if_pos (by rw [if_neg hd]), if_neg hd]
    obtain ⟨σ4, x4', e4, M4, X4⟩ := v_char hQ M3 X3 (c := 47) (by omega) (by omega)
    obtain ⟨σ5, x5', v5, e5, M5, f5, X5⟩ := v_writes hQ (i := 2 * p + 1) M4 (by omega) hr hr2 (by rw [k1]; exact x3) X4 (by omega)
    rw [k1] at X5
    refine ⟨σ5, x5', v5, ?_, M5, fun j hj => by rw [f5 j hj, f3 j hj], X5⟩
    rw [show (47 : Int32) = nI 47 from rfl]
    simp only [e4, Option.bind_some, rS hQ M4, e5, rS hQ M5]
    rw [X5.1]
theorem r_write (hQ : kM Q) {σ : g_S} (C : MS Q σ0 σ m) (x r : Int32) : RM Q σ0 (fX8_write σ (Q 0) x r) (mWrite m x r) := by
  obtain ⟨z, v, M, V⟩ := C
  obtain ⟨σ1, e1, M1⟩ := v_p0 hQ M 0
  rw [nI_0] at e1
  have V1 := V.thr 0
  have no : RM Q σ0 (some (-1, σ1)) (-1, m) := ⟨σ1, rfl, _, v, M1, V1⟩
  unfold fX8_write BX8_write_23 mWrite
  simp only [e1, Option.bind_some, r_isP]
  by_cases hx : isP x
  · rw [if_neg (by rw [if_pos hx]; decide)]
    by_cases h2 : r < 2
    · rw [if_pos h2, if_neg (fun w => w.2.1 h2)]
      exact no
    · rw [if_neg h2]
      by_cases h3 : r ≤ 36
      · rw [if_pos h3, if_pos (show isP x ∧ ¬ r < 2 ∧ r ≤ 36 from ⟨hx, h2, h3⟩)]
        obtain ⟨p, hp, rfl⟩ : ∃ p, p < 16 ∧ x = nI p := ⟨_, isP_of hx⟩
        rw [(isP_nI hp).2]
        obtain ⟨fa, ga⟩ := V1.fr hp
        have hr0 : ¬ r < 0 := fun w => h2 (Int32.lt_trans w (by decide))
        obtain ⟨k, k1, k2⟩ := nI_of2 (x := r) (M := 36) (n := 36) rfl hr0 h3
        subst k2
        have k3 : 2 ≤ k := by
          rcases Nat.lt_or_ge k 2 with q | q
          · exact absurd (nI_lt q (by omega)) h2
          · exact q
        rw [nI_clamp (by omega), ← ga]
        obtain ⟨σ2, e2, M2⟩ := v_p7 hQ M1 0
        rw [nI_0] at e2
        have b2 := v_bel hQ M2 hp
        obtain ⟨a1, a2, a3, a4⟩ := id V
        have X0 : XT (z.2.2.2.2.1, 0) 0 (fun _ => 45) := ⟨rfl, by omega, fun k hk => by omega⟩
        have fin : ∀ (σ3 : g_S) (xx : (Nat → Nat) × Nat), MSt Q σ0 σ3 (0, z.2.1, z.2.2.1, z.2.2.2.1, xx) v → XT xx (z.2.1 p) (fun _ => 45) → RM Q σ0 (BX8_write_45 σ3 (Q 0) (nI p) (nI k)) (nI (spW (v (2 * p), v (2 * p + 1), z.2.1 p) k).1, m.1, m.2.1, spW (v (2 * p), v (2 * p + 1), z.2.1 p) k) := by
          intro σ3 xx M3 X3
          obtain ⟨σ4, x4, v4, e4, M4, f4, X4⟩ := r_write45 hQ M3 hp k3 k1 fa X3
          refine ⟨σ4, e4, _, v4, M4, fun q hq => ?_, a2, X4, by rw [f4 _ (by decide)]; exact a4⟩
          rw [f4 _ (by omega), f4 _ (by omega)]
          exact a1 q hq
        simp only [rS hQ M1, e2, Option.bind_some, rS hQ M2, b2]
        have hz5 : z.2.1 p ≤ 1 := fa.2.2.2.2.1
        by_cases hb : z.2.1 p = 0
        · have eb : nI (z.2.1 p) = 0 := by rw [hb]; rfl
          rw [if_pos eb]
          exact fin σ2 _ M2 (by rw [hb]; exact X0)
        · have eb : ¬ nI (z.2.1 p) = 0 := fun w => hb ((ja_e0 (by omega)).mp w)
          rw [if_neg eb]
          obtain ⟨σ3, xx, e3, M3, X3⟩ := v_char hQ M2 X0 (c := 45) (by omega) (by omega)
          rw [show (45 : Int32) = nI 45 from rfl]
          simp only [e3, Option.bind_some]
          refine fin σ3 xx M3 ?_
          rw [show z.2.1 p = 0 + 1 by omega]
          refine X3.congr (fun k hk => ?_)
          show (if k = 0 then 45 else 45) = 45
          split <;> rfl
      · rw [if_neg h3, if_neg (fun w => h3 w.2.2)]
        exact no
  · rw [if_pos (by rw [if_neg hx]), if_neg (fun w => hx w.1)]
    exact no
end MZ
