/-! the reference's numbers, in values -/
def gm (x n : Nat) (g : Nat → Nat) (v : Nat) : Prop := n ≤ 264 ∧ (∀ k, g k < 65536) ∧ (x ≠ 40 ∧ x ≠ 41 → wc g n ∧ wv 65536 g n = v)
def GM (s : Nat → Nat) (lf : Nat → Nat → Nat) (v : Nat → Nat) : Prop := ∀ x, x < 44 → gm x (s x) (lf x) (v x)
theorem GM.up {s : Nat → Nat} {lf : Nat → Nat → Nat} {v : Nat → Nat} {i n x : Nat} {g : Nat → Nat} (h : GM s lf v) (hg : gm i n g x) : GM (va_up s i n) (va_up lf i g) (va_up v i x) := fun j hj => by
  by_cases e : j = i
  · subst e
    rw [va_up_self, va_up_self, va_up_self]
    exact hg
  · rw [va_up_ne _ _ e, va_up_ne _ _ e, va_up_ne _ _ e]
    exact h j hj
theorem gm_trim {x c : Nat} {g : Nat → Nat} (h1 : c ≤ 264) (hb : ∀ k, g k < 65536) : gm x (wt g c) g (wv 65536 g c) := ⟨Nat.le_trans (wt_le g c) h1, hb, fun _ => ⟨wt_c g c, wt_v 65536 g c⟩⟩
theorem gm_size {x n k v : Nat} {g : Nat → Nat} (h : gm x n g v) (hx : x ≠ 40 ∧ x ≠ 41) (hv : v < 65536 ^ k) : n ≤ k := by
  obtain ⟨h3, h4⟩ := h.2.2 hx
  rcases Nat.lt_or_ge k n with q | q
  · have h5 := wc_low (B := 65536) h3 (by omega)
    have h6 : 65536 ^ k ≤ 65536 ^ (n - 1) := Nat.pow_le_pow_right (by decide) (by omega)
    omega
  · exact q
theorem gm_val {x n v : Nat} {g : Nat → Nat} (h : gm x n g v) (hx : x ≠ 40 ∧ x ≠ 41) : v < 65536 ^ n := by
  rw [← (h.2.2 hx).2]
  exact wv_lt (fun k _ => h.2.1 k)
theorem mup_lt {g : Nat → Nat} {k x : Nat} (hb : ∀ j, g j < 65536) (hx : x < 65536) : ∀ j, va_up g k x j < 65536 := fun j => by
  unfold va_up; split
  · exact hx
  · exact hb j
theorem mla_lt {s : Nat → Nat} {lf : Nat → Nat → Nat} {a : Nat} (h : ∀ k, lf a k < 65536) (k : Nat) : la s lf a k < 65536 := by
  unfold la; split
  · exact h k
  · decide
theorem mla_wv {s : Nat → Nat} {lf : Nat → Nat → Nat} {a n : Nat} (h : s a ≤ n) : wv 65536 (fun k => la s lf a k) n = wv 65536 (lf a) (s a) := by
  obtain ⟨m, rfl⟩ : ∃ m, n = s a + m := ⟨n - s a, by omega⟩
  rw [wv_top0 (fun k h1 h2 => by unfold la; rw [if_neg (by omega)])]
  exact wv_congr (fun k hk => by unfold la; rw [if_pos hk])
theorem la_mu {s : Nat → Nat} {lf : Nat → Nat → Nat} {i a : Nat} (h : a ≠ i) (g : Nat → Nat) (k : Nat) : la s (va_up lf i g) a k = la s lf a k := by
  unfold la; rw [va_up_ne _ _ h]
def MSt (Q : Nat → Nat) (σ0 σ : g_S) (z : g_Z) (v : Nat → Nat) : Prop := ∃ s lf, σ = md Q σ0 z s lf ∧ GM s lf v
theorem ji_and {n : Nat} (h : n < 2147483648) : g_irem (nI n) 65536 = nI (n % 65536) := pk_rem (d := 65536) h (by decide) (by decide)
theorem ji_div {n : Nat} (h : n < 2147483648) : nI n / 65536 = nI (n / 65536) := pk_div (d := 65536) h (by decide) (by decide)
section ME
variable {Q : Nat → Nat} {σ0 : g_S} {z : g_Z} {s : Nat → Nat} {lf : Nat → Nat → Nat} {v : Nat → Nat}
theorem rS (hQ : kM Q) {σ : g_S} (M : MSt Q σ0 σ z v) : g_fi σ 8 (Q 0) 0 = some (nI z.1) ∧ g_fr σ 8 (Q 0) 1 = some (Q 1) ∧ g_fr σ 8 (Q 0) 2 = some (Q 2) ∧ g_fr σ 8 (Q 0) 3 = some (Q 3) ∧ g_fr σ 8 (Q 0) 4 = some (Q 4) ∧ g_fi σ 8 (Q 0) 5 = some (nI z.2.2.2.1) ∧ g_fr σ 8 (Q 0) 6 = some (Q 5) ∧ g_fi σ 8 (Q 0) 7 = some (nI z.2.2.2.2.2) ∧ (∀ {β : Type} (X : Option β), ((g_o σ 8 (Q 0)).bind fun _ => X) = X) := by
  obtain ⟨s, lf, rfl, h⟩ := M
  exact rM hQ
theorem v_small (hQ : kM Q) {σ : g_S} (M : MSt Q σ0 σ z v) {x n : Nat} (hx : x < 44) (hn : n < 65536) : ∃ σ', fX8_small σ (Q 0) (nI x) (nI n) = some σ' ∧ MSt Q σ0 σ' z (va_up v x n) := by
  obtain ⟨s, lf, rfl, h⟩ := M
  obtain ⟨h1, h2, h3⟩ := h x hx
  have hb := mup_lt (k := 0) h2 hn
  have q := h.up (gm_trim (x := x) (c := 1) (by omega) hb)
  rw [wv_s, wv_0, va_up_self, Nat.pow_zero, Nat.mul_one, Nat.zero_add] at q
  refine ⟨_, ?_, _, _, rfl, q⟩
  unfold fX8_small
  rw [show (0 : Int32) = nI 0 from rfl, show (1 : Int32) = nI 1 from rfl]
  simp only [rM hQ, u_puts hQ hx (show 0 < 264 by omega), Option.bind_some]
  rw [u_trim hQ hx (by rw [va_up_self]; exact hb) (by omega), va_up_self]
  rfl
theorem v_isZero (hQ : kM Q) {σ : g_S} (M : MSt Q σ0 σ z v) {x : Nat} (hx : x < 44) (hx4 : x ≠ 40 ∧ x ≠ 41) : fX8_isZero σ (Q 0) (nI x) = some (if v x = 0 then 1 else 0, σ) := by
  obtain ⟨s, lf, rfl, h⟩ := M
  obtain ⟨h1, h2, h3⟩ := h x hx
  obtain ⟨h4, h5⟩ := h3 hx4
  have hz : v x = 0 ↔ s x = 0 := by rw [← h5]; exact wc_zero (by decide) h4
  unfold fX8_isZero BX8_isZero_14
  simp only [rM hQ, m_len hQ hx, Option.bind_some]
  by_cases h0 : s x = 0
  · rw [if_pos ((ja_e0 (by omega)).mpr h0), if_pos (hz.mpr h0)]; exact g_if_pos (by simp)
  · rw [if_neg (fun w => h0 ((ja_e0 (by omega)).mp w)), if_neg (fun w => h0 (hz.mp w))]; exact g_if_pos (by simp)
theorem v_isOne (hQ : kM Q) {σ : g_S} (M : MSt Q σ0 σ z v) {x : Nat} (hx : x < 44) (hx4 : x ≠ 40 ∧ x ≠ 41) : fX8_isOne σ (Q 0) (nI x) = some (if v x = 1 then 1 else 0, σ) := by
  obtain ⟨s, lf, rfl, h⟩ := M
  obtain ⟨h1, h2, h3⟩ := h x hx
  obtain ⟨h4, h5⟩ := h3 hx4
  have b0 := h2 0
  unfold fX8_isOne BX8_isOne_28 BX8_isOne_29
  simp only [rM hQ, m_len hQ hx, Option.bind_some]
  by_cases hs : s x = 1
  · have hv : v x = lf x 0 := by rw [← h5, hs, wv_s, wv_0]; simp
    have eg := m_get (σ0 := σ0) (z := z) (s := s) (lf := lf) hQ hx (show 0 < 264 by omega)
    rw [Nat.add_zero] at eg
    rw [if_pos ((ja_e1 (by omega)).mpr hs), show (264 : Int32) = nI 264 from rfl, pk_mul, eg]
    simp only [Option.bind_some]
    by_cases h0 : lf x 0 = 1
    · rw [if_pos ((ja_e1 (by omega)).mpr h0), if_pos (show v x = 1 by omega)]; exact g_if_pos (by simp)
    · rw [if_neg (fun e => h0 ((ja_e1 (by omega)).mp e)), if_neg (show ¬ v x = 1 by omega)]; exact g_if_pos (by simp)
  · rw [if_neg (fun e => hs ((ja_e1 (by omega)).mp e))]
    have hv : v x ≠ 1 := by
      intro e
      rcases Nat.lt_or_ge 1 (s x) with q | q
      · have := wc_low (B := 65536) h4 (by omega)
        have h6 : 65536 ^ 1 ≤ 65536 ^ (s x - 1) := Nat.pow_le_pow_right (by decide) (by omega)
        rw [Nat.pow_one] at h6
        omega
      · rw [show s x = 0 by omega, wv_0] at h5
        omega
    rw [if_neg hv]; exact g_if_pos (by simp)
theorem TOP_128 : TOP = 65536 ^ 128 := by
  unfold TOP
  rw [show (65536 : Nat) = 2 ^ 16 from rfl, ← Nat.pow_mul]
theorem v_tooG (hQ : kM Q) {σ : g_S} (M : MSt Q σ0 σ z v) {x : Nat} (hx : x < 44) (hx4 : x ≠ 40 ∧ x ≠ 41) : fX8_isTooGreat σ (Q 0) (nI x) = some (if v x < TOP then 0 else 1, σ) := by
  obtain ⟨s, lf, rfl, h⟩ := M
  have hg := h x hx
  obtain ⟨h1, h2, h3⟩ := id hg
  unfold fX8_isTooGreat BX8_isTooGreat_17
  simp only [rM hQ, m_len hQ hx, Option.bind_some]
  rw [show (128 : Int32) = nI 128 from rfl]
  by_cases h0 : v x < TOP
  · have := gm_size hg hx4 (by rw [← TOP_128]; exact h0)
    rw [if_pos (nI_le this (by omega)), if_pos h0]; exact g_if_pos (by simp)
  · have hlt : 128 < s x := by
      rcases Nat.lt_or_ge 128 (s x) with q | q
      · exact q
      · exfalso
        have h4 := gm_val hg hx4
        have h6 : 65536 ^ s x ≤ 65536 ^ 128 := Nat.pow_le_pow_right (by decide) q
        rw [TOP_128] at h0
        omega
    rw [if_neg (nI_ge hlt (by omega)), if_neg h0]; exact g_if_pos (by simp)
theorem u_copyL (hQ : kM Q) {x w : Nat} (hx : x < 44) (hw : w < 44) (hne : x ≠ w) (hs : s x ≤ 264) (hb : ∀ k, lf x k < 65536) {A : Nat → Nat} (eA : A = lf x) :
    ∀ (n k : Nat) (lf : Nat → Nat → Nat), s x - k < n → k ≤ s x → lf x = A → (∀ j, lf w j < 65536) → ∃ g, LX8_copy_2 n (md Q σ0 z s lf) (Q 0) (nI x) (nI w) (nI k) = some (md Q σ0 z (va_up s w (s x)) (va_up lf w g)) ∧ (∀ j, j < k → g j = lf w j) ∧ (∀ j, k ≤ j → j < s x → g j = A j) ∧ ∀ j, g j < 65536 := by
  intro n
  induction n with
  | zero => intro k lf h; omega
  | succ n ih =>
    intro k lf hn hk eL bw
    unfold LX8_copy_2
    simp only [rM hQ, m_len hQ hx, Option.bind_some]
    by_cases hkl : k = s x
    · rw [if_pos (nI_le (by omega) (by omega))]
      refine ⟨lf w, ?_, fun _ _ => rfl, fun j h1 h2 => by omega, bw⟩
      rw [m_setl hQ hw, up_same]
      rfl
    · rw [if_neg (nI_ge (by omega) (by omega))]
      have e1 : la s lf x k = A k := by unfold la; rw [if_pos (by omega), eL]
      simp only [u_at hQ hx hs (show k < 2147483648 by omega), Option.bind_some, rM hQ, e1, u_puts hQ hw (show k < 264 by omega), g_let]
      rw [nI_1]
      have hAk : A k < 65536 := by rw [eA]; exact hb k
      obtain ⟨g, f1, f2, f3, f4⟩ := ih (k + 1) (va_up lf w (va_up (lf w) k (A k))) (by omega) (by omega) (by rw [va_up_ne _ _ hne, eL]) (by rw [va_up_self]; exact mup_lt bw hAk)
      rw [up_up] at f1
      refine ⟨g, f1, fun j hj => ?_, fun j h1 h2 => ?_, f4⟩
      · rw [f2 j (by omega), va_up_self, va_up_ne _ _ (by omega)]
      · rcases Nat.lt_or_ge k j with q | q
        · exact f3 j (by omega) h2
        · rw [show j = k by omega, f2 k (by omega), va_up_self, va_up_self]
theorem v_copy (hQ : kM Q) {σ : g_S} (M : MSt Q σ0 σ z v) {x w : Nat} (hx : x < 44) (hw : w < 44) (hne : x ≠ w) (hx4 : x ≠ 40 ∧ x ≠ 41) : ∃ σ', fX8_copy σ (Q 0) (nI x) (nI w) = some σ' ∧ MSt Q σ0 σ' z (va_up v w (v x)) := by
  obtain ⟨s, lf, rfl, h⟩ := M
  obtain ⟨h1, h2, h3⟩ := h x hx
  obtain ⟨h4, h5⟩ := h3 hx4
  obtain ⟨g, f1, f2, f3, f4⟩ := u_copyL (σ0 := σ0) (z := z) (s := s) (lf := lf) hQ hx hw hne h1 h2 rfl g_fuel 0 lf (fuel_ge (by omega)) (by omega) rfl (h w hw).2.1
  refine ⟨_, ?_, _, _, rfl, h.up (i := w) (n := s x) (g := g) (x := v x) ⟨h1, f4, fun _ => ⟨?_, ?_⟩⟩⟩
  · unfold fX8_copy
    rw [show (0 : Int32) = nI 0 from rfl]
    exact f1
  · rcases h4 with q | q
    · exact Or.inl q
    · by_cases hz : s x = 0
      · exact Or.inl hz
      · exact Or.inr (by rw [f3 _ (by omega) (by omega)]; exact q)
  · rw [wv_congr (fun i hi => f3 i (by omega) hi)]
    exact h5
theorem u_orderL (hQ : kM Q) {i j : Nat} (hi : i < 44) (hj : j < 44) (si : s i ≤ 264) (sj : s j ≤ 264) (bi : ∀ k, lf i k < 65536) (bj : ∀ k, lf j k < 65536) : ∀ (n c : Nat), c < n → c ≤ s i → c ≤ s j → LX8_order_45 n (md Q σ0 z s lf) (Q 0) (nI i) (nI j) (nI c - 1) = some (cmpI (wv 65536 (lf i) c) (wv 65536 (lf j) c), md Q σ0 z s lf) := by
  intro n
  induction n with
  | zero => intro c h; omega
  | succ n ih =>
    intro c hn h1 h2
    unfold LX8_order_45 BX8_order_84
    cases c with
    | zero =>
      rw [if_pos (by decide), wv_0, wv_0, cmpI_eq]
    | succ c =>
      have b1 := bi c
      have b2 := bj c
      have e1 : la s lf i c = lf i c := by unfold la; rw [if_pos (by omega)]
      have e2 : la s lf j c = lf j c := by unfold la; rw [if_pos (by omega)]
      rw [nI_pred, if_neg (nI_pos (by omega))]
      simp only [rM hQ, u_at hQ hi si (show c < 2147483648 by omega), u_at hQ hj sj (show c < 2147483648 by omega), Option.bind_some, e1, e2, g_let]
      by_cases he : lf i c = lf j c
      · rw [if_pos (by rw [he]), ja_m1, ih c (by omega) (by omega) (by omega), wv_s, wv_s, he, cmpI_add]
      · rw [if_neg (fun e => he ((nI_eq (by omega) (by omega)).mp e))]
        by_cases hle : lf j c ≤ lf i c
        · rw [if_pos ((nI_leI (by omega) (by omega)).mpr hle), cmpI_gt (wv_lt_at (k := c) (fun k _ => bj k) (by omega) (by omega) (fun k _ _ => by omega))]
        · rw [if_neg (fun e => hle ((nI_leI (by omega) (by omega)).mp e)), cmpI_lt (wv_lt_at (k := c) (fun k _ => bi k) (by omega) (by omega) (fun k _ _ => by omega))]
theorem v_order (hQ : kM Q) {σ : g_S} (M : MSt Q σ0 σ z v) {i j : Nat} (hi : i < 44) (hj : j < 44) (i4 : i ≠ 40 ∧ i ≠ 41) (j4 : j ≠ 40 ∧ j ≠ 41) : fX8_order σ (Q 0) (nI i) (nI j) = some (cmpI (v i) (v j), σ) := by
  obtain ⟨s, lf, rfl, h⟩ := M
  obtain ⟨a1, a2, a⟩ := h i hi
  obtain ⟨b1, b2, b⟩ := h j hj
  obtain ⟨a3, a4⟩ := a i4
  obtain ⟨b3, b4⟩ := b j4
  unfold fX8_order BX8_order_35
  simp only [rM hQ, m_len hQ hi, m_len hQ hj, Option.bind_some, g_let]
  by_cases he : s i = s j
  · rw [if_pos (by rw [he]), u_orderL hQ hi hj a1 b1 a2 b2 g_fuel (s i) (fuel_ge (by omega)) (by omega) (by omega), a4, he, b4]
  · rw [if_neg (fun e => he ((nI_eq (by omega) (by omega)).mp e))]
    by_cases hle : s j ≤ s i
    · rw [if_pos ((nI_leI (by omega) (by omega)).mpr hle), cmpI_gt (by rw [← a4, ← b4]; exact wc_lt (by decide) (fun k _ => b2 k) a3 (by omega))]
    · rw [if_neg (fun e => hle ((nI_leI (by omega) (by omega)).mp e)), cmpI_lt (by rw [← a4, ← b4]; exact wc_lt (by decide) (fun k _ => a2 k) b3 (by omega))]
end ME
