/-! the reference: read -/
section MY
variable {Q : Nat → Nat} {σ0 : g_S} {z : g_Z} {v : Nat → Nat} {m : g_M} {s : Nat → Nat} {tn : Nat → Nat}
theorem u_digL (hQ : kM Q) {x L d : Nat} (hx : x < 44) (hs : s x ≤ 264) (hL : L ≤ 264) {A : Nat → Nat} (hA : ∀ j, A j < 65536) (K : g_S → Nat → Int32 → Int32 → Int32 → Option (Int32 × g_S)) (y p : Int32) :
    ∀ (n k c : Nat) (lf : Nat → Nat → Nat), L - k < n → k ≤ L → (∀ j, lf x j < 65536) → (∀ j, k ≤ j → la s lf x j = A j) → c ≤ 9 → wv 65536 (lf x) k + c * 65536 ^ k = 10 * wv 65536 A k + d →
    ∃ g c' f, LX8_digits_48 K n (md Q σ0 z s lf) (Q 0) y (nI x) p (nI c) (nI L) (nI k) = LX8_digits_48 K (f + 1) (md Q σ0 z s (va_up lf x g)) (Q 0) y (nI x) p (nI c') (nI L) (nI L) ∧ (∀ j, g j < 65536) ∧ c' ≤ 9 ∧ wv 65536 g L + c' * 65536 ^ L = 10 * wv 65536 A L + d := by
  intro n
  induction n with
  | zero => intro k c lf h; omega
  | succ n ih =>
    intro k c lf hn hk hb hl hc hw
    rcases Nat.lt_or_ge k L with h | h
    · have e1 := hl k (Nat.le_refl _)
      have hAk := hA k
      obtain ⟨g, c', f, f1, f2, f3, f4⟩ := ih (k + 1) ((A k * 10 + c) / 65536) (va_up lf x (va_up (lf x) k ((A k * 10 + c) % 65536))) (by omega) (by omega) (by rw [va_up_self]; exact mup_lt hb (by omega)) (fun j hj => by
        rw [← hl j (by omega)]
        unfold la
        rw [va_up_self, va_up_ne _ _ (show j ≠ k by omega)]) (by omega) (by
          rw [va_up_self, wv_s, wv_s, va_up_self, wv_congr (g := va_up (lf x) k ((A k * 10 + c) % 65536)) (h := lf x) (fun i hi => va_up_ne _ _ (by omega)), Nat.pow_succ]
          have hd := Nat.div_add_mod (A k * 10 + c) 65536
          generalize (A k * 10 + c) / 65536 = q at *
          generalize (A k * 10 + c) % 65536 = r at *
          generalize 65536 ^ k = P at *
          have e2 : (65536 * q + r) * P = (A k * 10 + c) * P := by rw [hd]
          rw [Nat.add_mul, Nat.add_mul, Nat.mul_assoc, Nat.mul_assoc] at e2
          rw [Nat.mul_left_comm q P 65536, Nat.mul_comm q, Nat.mul_add]
          have e3 : 65536 * (q * P) = P * 65536 * q := by ac_rfl
          have e4 : A k * (10 * P) = 10 * (A k * P) := by ac_rfl
          have e5 : P * (65536 * q) = P * 65536 * q := by ac_rfl
          omega)
      rw [up_up] at f1
      refine ⟨g, c', f, ?_, f2, f3, f4⟩
      rw [LX8_digits_48, if_neg (nI_ge h (by omega))]
      simp only [rM hQ, u_at hQ hx hs (show k < 2147483648 by omega), Option.bind_some, e1, g_let]
      rw [show (10 : Int32) = nI 10 from rfl, pk_mul, nI_add, ji_and (by omega), ji_div (by omega), nI_1]
      simp only [u_puts hQ hx (show k < 264 by omega), Option.bind_some]
      exact f1
    · have hkL : k = L := by omega
      subst hkL
      refine ⟨lf x, c, n, ?_, hb, hc, ?_⟩
      · rw [up_same]
      · exact hw
theorem v_digit (hQ : kM Q) {σ : g_S} (M : MSt Q σ0 σ z v) {x d : Nat} (hx : x < 44) (x4 : x ≠ 40 ∧ x ≠ 41) (hd : d ≤ 9) (hv : v x < TOP) (K : g_S → Nat → Int32 → Int32 → Int32 → Option (Int32 × g_S)) (y p : Int32) : ∃ σ', MSt Q σ0 σ' z (va_up v x (10 * v x + d)) ∧ ((g_li σ 0 (Q 2) (nI x)).bind fun v11 => g_let (v11 + 1) fun v12 => LX8_digits_48 K g_fuel σ (Q 0) y (nI x) p (nI d) v12 0) = (if 10 * v x + d < TOP then K σ' (Q 0) y (nI x) (p + 1) else some (-1, σ')) := by
  obtain ⟨s, lf, rfl, h⟩ := M
  have hg := h x hx
  obtain ⟨h1, h2, h3⟩ := id hg
  obtain ⟨h4, h5⟩ := h3 x4
  have hs := gm_size hg x4 (by rw [← TOP_128]; exact hv)
  obtain ⟨g, c', f, f1, f2, f3, f4⟩ := u_digL (σ0 := σ0) (z := z) (s := s) (L := s x + 1) (d := d) hQ hx h1 (by omega) (A := fun j => la s lf x j) (mla_lt h2) K y p g_fuel 0 d lf (fuel_ge (by omega)) (by omega) h2 (fun _ _ => rfl) hd (by rw [wv_0, wv_0]; omega)
  rw [mla_wv (by omega), h5] at f4
  have hlt : 10 * v x + d < 65536 ^ (s x + 1) := by
    have := gm_val hg x4
    rw [Nat.pow_succ]
    have hp : 0 < 65536 ^ s x := Nat.pow_pos (by decide)
    omega
  have hc0 : c' = 0 := by
    rcases Nat.eq_zero_or_pos c' with q | q
    · exact q
    · have : 1 * 65536 ^ (s x + 1) ≤ c' * 65536 ^ (s x + 1) := Nat.mul_le_mul_right _ q
      omega
  rw [hc0, Nat.zero_mul, Nat.add_zero] at f4
  have G := h.up (gm_trim (x := x) (c := s x + 1) (by omega) f2)
  rw [f4] at G
  have e2 := u_trim (σ0 := σ0) (z := z) (s := s) (lf := va_up lf x g) hQ (x := x) (c := s x + 1) hx (by rw [va_up_self]; exact f2) (by omega)
  rw [va_up_self] at e2
  have M2 : MSt Q σ0 (md Q σ0 z (va_up s x (wt g (s x + 1))) (va_up lf x g)) z (va_up v x (10 * v x + d)) := ⟨_, _, rfl, G⟩
  have e3 := v_tooG hQ M2 hx x4
  rw [va_up_self] at e3
  refine ⟨_, M2, ?_⟩
  rw [nI_0] at f1
  rw [m_len hQ hx]
  simp only [Option.bind_some, g_let]
  rw [nI_1, f1, LX8_digits_48, if_pos (nI_le (Nat.le_refl _) (by omega))]
  simp only [rM hQ, e2, Option.bind_some, e3]
  by_cases ht : 10 * v x + d < TOP
  · rw [if_pos ht, if_pos ht, if_pos rfl]
    rfl
  · rw [if_neg ht, if_neg ht, if_neg (by decide)]
theorem v_byte (hQ : kM Q) {σ : g_S} (M : MSt Q σ0 σ z v) {i tl : Nat} (hi : i ≤ tl) (ht : tl ≤ 1400) (hT : ∀ k, k < tl → z.2.2.1 k = tn k) : fX8_byteAt σ (Q 0) (nI i) (nI tl) = some (if i < tl then nI (tn i) else -1, σ) := by
  unfold fX8_byteAt BX8_byteAt_15
  by_cases h : i < tl
  · rw [if_neg (nI_ge h (by omega)), if_pos h]
    simp only [rS hQ M, v_tap hQ M (show i < 1400 by omega), Option.bind_some]
    rw [hT i h]
  · rw [if_pos (nI_le (by omega) (by omega)), if_neg h]
theorem v_isDig (σ : g_S) {n : Nat} (hn : n < 256) : fX8_isDigit σ (nI n) = some (if isD n then 1 else 0, σ) := by
  unfold fX8_isDigit BX8_isDigit_16 BX8_isDigit_17
  rw [show (48 : Int32) = nI 48 from rfl, show (57 : Int32) = nI 57 from rfl]
  by_cases h1 : n < 48
  · rw [if_pos (nI_lt h1 (by omega)), if_neg (fun w => by have := w.1; omega)]; exact g_if_pos (by simp)
  · rw [if_neg (nI_nlt (by omega) (by omega))]
    by_cases h2 : 57 < n
    · rw [if_pos (nI_lt h2 (by omega)), if_neg (fun w => by have := w.2; omega)]; exact g_if_pos (by simp)
    · rw [if_neg (nI_nlt (by omega) (by omega)), if_pos ⟨by omega, by omega⟩]; exact g_if_pos (by simp)
theorem v_isDig1 (σ : g_S) : fX8_isDigit σ (-1) = some (0, σ) := by
  unfold fX8_isDigit BX8_isDigit_16 BX8_isDigit_17
  rw [if_pos (by decide)]; exact g_if_pos (by simp)
theorem v_digitsL (hQ : kM Q) {x k tl c : Nat} (hx : x < 44) (x4 : x ≠ 40 ∧ x ≠ 41) (ht : tl ≤ 1400) (hT : ∀ j, j < tl → z.2.2.1 j = tn j) (hB : ∀ j, j < tl → tn j < 256) (hk : k ≤ tl) (hc : DR tn tl k c) :
    ∀ (n j : Nat) (σ : g_S) (v : Nat → Nat), c - j < n → j ≤ c → MSt Q σ0 σ z v → v x = dv tn k j → v x < TOP → ∃ σ' v', LX8_digits_10 n σ (Q 0) (nI tl) (nI x) (nI (k + j)) = some (if dv tn k c < TOP then nI (k + c) else -1, σ') ∧ MSt Q σ0 σ' z v' ∧ (dv tn k c < TOP → v' x = dv tn k c) ∧ ∀ i, i ≠ x → v' i = v i := by
  intro n
  induction n with
  | zero => intro j σ v h; omega
  | succ n ih =>
    intro j σ v hn hj M hv hT2
    have hkc : k + c ≤ tl := by
      rcases Nat.eq_zero_or_pos c with q | q
      · omega
      · have := (hc.1 (c - 1) (by omega)).1
        omega
    have e1 := v_byte (tn := tn) hQ M (i := k + j) (tl := tl) (by omega) ht hT
    rw [LX8_digits_10]
    simp only [rS hQ M, e1, Option.bind_some]
    rcases Nat.lt_or_ge j c with h | h
    · obtain ⟨d1, d2⟩ := hc.1 j h
      have hd1 : 48 ≤ tn (k + j) := d2.1
      have hd2 : tn (k + j) ≤ 57 := d2.2
      rw [if_pos d1, v_isDig σ (hB _ d1)]
      simp only [Option.bind_some]
      rw [if_neg (by rw [if_pos d2]; decide)]
      rw [if_pos d1] at e1
      simp only [rS hQ M, e1, Option.bind_some, g_let]
      rw [show (48 : Int32) = nI 48 from rfl, pk_sub hd1]
      obtain ⟨σ2, M2, e2⟩ := v_digit hQ M (d := tn (k + j) - 48) hx x4 (by omega) hT2 (LX8_digits_10 n) (nI tl) (nI (k + j))
      simp only [g_let] at e2
      rw [e2]
      have es : 10 * v x + (tn (k + j) - 48) = dv tn k (j + 1) := by
        show _ = dv tn k j * 10 + _
        rw [hv]; omega
      rw [es] at M2 ⊢
      by_cases hlt : dv tn k (j + 1) < TOP
      · rw [if_pos hlt, nI_1, show k + j + 1 = k + (j + 1) by omega]
        obtain ⟨σ3, v3, e3, M3, g1, g2⟩ := ih (j + 1) σ2 _ (by omega) (by omega) M2 (va_up_self _ _ _) (by rw [va_up_self]; exact hlt)
        exact ⟨σ3, v3, e3, M3, g1, fun i hi => by rw [g2 i hi, va_up_ne _ _ hi]⟩
      · rw [if_neg hlt]
        have hbig : ¬ dv tn k c < TOP := by
          have := dv_mono tn k (j + 1) (c - (j + 1))
          rw [show j + 1 + (c - (j + 1)) = c by omega] at this
          omega
        rw [if_neg hbig]
        exact ⟨σ2, _, rfl, M2, fun w => absurd w hbig, fun i hi => va_up_ne _ _ hi⟩
    · have hjc : j = c := by omega
      subst hjc
      have hno : ∃ b : Int32, (if k + j < tl then nI (tn (k + j)) else -1) = b ∧ fX8_isDigit σ b = some (0, σ) := by
        by_cases hl : k + j < tl
        · rw [if_pos hl]
          refine ⟨_, rfl, ?_⟩
          rw [v_isDig σ (hB _ hl), if_neg (fun w => hc.2 ⟨hl, w⟩)]
        · rw [if_neg hl]
          exact ⟨_, rfl, v_isDig1 σ⟩
      obtain ⟨b, hb1, hb2⟩ := hno
      rw [hb1, hb2]
      simp only [Option.bind_some]
      rw [if_pos True.intro, if_pos (by rw [← hv]; exact hT2)]
      exact ⟨σ, v, rfl, M, fun _ => hv, fun _ _ => rfl⟩
theorem v_digits (hQ : kM Q) {σ : g_S} (M : MSt Q σ0 σ z v) {x k tl : Nat} (hx : x < 44) (x4 : x ≠ 40 ∧ x ≠ 41) (ht : tl ≤ 1400) (hT : ∀ j, j < tl → z.2.2.1 j = tn j) (hB : ∀ j, j < tl → tn j < 256) (hk : k ≤ tl) : ∃ r σ' v', fX8_digits σ (Q 0) (nI k) (nI tl) (nI x) = some (r, σ') ∧ MSt Q σ0 σ' z v' ∧ (dv tn k (rlen tn tl k) < TOP → r = nI (k + rlen tn tl k) ∧ v' x = dv tn k (rlen tn tl k)) ∧ (¬ dv tn k (rlen tn tl k) < TOP → r = -1) ∧ ∀ i, i ≠ x → v' i = v i := by
  have hc := rlen_is tn tl k
  generalize rlen tn tl k = c at *
  have hcl : c ≤ 1400 := by
    rcases Nat.eq_zero_or_pos c with q | q
    · omega
    · have := (hc.1 (c - 1) (by omega)).1
      omega
  obtain ⟨s, lf, rfl, h⟩ := M
  have hG := h.up (i := x) (n := 0) (g := lf x) (x := 0) ⟨Nat.zero_le _, (h x hx).2.1, fun _ => ⟨Or.inl rfl, rfl⟩⟩
  rw [up_same] at hG
  have M1 : MSt Q σ0 (md Q σ0 z (va_up s x 0) lf) z (va_up v x 0) := ⟨_, _, rfl, hG⟩
  have h0 : (0 : Nat) < TOP := Nat.lt_of_lt_of_le (by decide) (Nat.le_of_lt TOP_1)
  obtain ⟨σ2, v2, e2, M2, g1, g2⟩ := v_digitsL (σ0 := σ0) (tn := tn) hQ hx x4 ht hT hB hk hc g_fuel 0 _ _ (fuel_ge (by omega)) (by omega) M1 (va_up_self _ _ _) (by rw [va_up_self]; exact h0)
  refine ⟨(if dv tn k c < TOP then nI (k + c) else -1), σ2, v2, ?_, M2, fun w => ⟨if_pos w, g1 w⟩, fun w => if_neg w, fun i hi => by rw [g2 i hi, va_up_ne _ _ hi]⟩
  unfold fX8_digits
  rw [← nI_0]
  simp only [rM hQ, Option.bind_some, m_setl hQ hx]
  exact e2
theorem r_128 (hQ : kM Q) {σ : g_S} (M : MSt Q σ0 σ z v) (V : MV z v m) {p nb : Nat} (hp : p < 16) (hnb : nb ≤ 1) (l1 : v 32 < TOP) (l2 : v 33 < TOP) (p2 : 0 < v 33) : RM Q σ0 ((g_o σ 8 (Q 0)).bind fun o19 => (fX8_least σ (Q 0)).bind fun r20 => (g_o r20 8 (Q 0)).bind fun o21 => (fX8_holds r20 (Q 0) (nI p) (nI nb)).bind fun r22 => some (r22.1, r22.2)) (0, va_up m.1 p (fRed (v 32, v 33, nb)), m.2) := by
  obtain ⟨σ1, v1, e1, M1, k1, k2, k3, k4⟩ := v_least hQ M (TOP_262 l1) (TOP_262 l2) p2
  have V1 := V.frame k3 k4
  have ok := fRed_ok (f := (v 32, v 33, nb)) l1 p2 l2 hnb
  have h := r_holds hQ M1 V1 hp hnb (r := (0, fRed (v 32, v 33, nb))) (by rw [k1, k2, if_pos ⟨ok.1, ok.2.2.1⟩]; rfl) (fun _ => ok)
  have e9 : mKeep m (nI p) (0, fRed (v 32, v 33, nb)) = (0, va_up m.1 p (fRed (v 32, v 33, nb)), m.2) := by
    unfold mKeep
    rw [(isP_nI hp).2]
    rfl
  rw [e9] at h
  simp only [rS hQ M, e1, Option.bind_some, rS hQ M1]
  exact h.id
def rdS (m : g_M) (p : Nat) (o : Option g_Fr) : Int32 × g_M := o.elim (-1, m) (fun f => (0, va_up m.1 p (fRed f), m.2))
theorem r_read50 (hQ : kM Q) {σ : g_S} (M : MSt Q σ0 σ z v) (V : MV z v m) {p tl : Nat} (hp : p < 16) (ht : tl ≤ 1400) (hT : ∀ j, j < tl → z.2.2.1 j = tn j) (hB : ∀ j, j < tl → tn j < 256) : RM Q σ0 (BX8_read_50 σ (Q 0) (nI p) (nI tl) (nI (tNeg tn tl)) (nI (tNeg tn tl))) (rdS m p (spT tn tl)) := by
  have hneg : tNeg tn tl ≤ tl ∧ tNeg tn tl ≤ 1 := by unfold tNeg; split <;> omega
  obtain ⟨r1, σ1, v1, e1, M1, g1, g0, g2⟩ := v_digits (tn := tn) hQ M (x := 32) (k := tNeg tn tl) (tl := tl) (by decide) (by decide) ht hT hB hneg.1
  have V1 : MV z v1 m := V.frame (fun i hi => g2 i (by omega)) (g2 42 (by decide))
  have hr := rlen_is tn tl (tNeg tn tl)
  have hEl : tE tn tl ≤ tl := by
    unfold tE
    rcases Nat.eq_zero_or_pos (rlen tn tl (tNeg tn tl)) with q | q
    · omega
    · have := (hr.1 (rlen tn tl (tNeg tn tl) - 1) (by omega)).1
      omega
  have eE : tNeg tn tl + rlen tn tl (tNeg tn tl) = tE tn tl := rfl
  have eN : dv tn (tNeg tn tl) (rlen tn tl (tNeg tn tl)) = tN tn tl := rfl
  rw [eN] at g1 g0
  unfold BX8_read_50 BX8_read_122
  rw [show (32 : Int32) = nI 32 from rfl, show (33 : Int32) = nI 33 from rfl, show (1 : Int32) = nI 1 from rfl]
  simp only [rS hQ M, e1, Option.bind_some]
  by_cases hA : 0 < rlen tn tl (tNeg tn tl) ∧ tN tn tl < TOP
  · obtain ⟨g1a, g1b⟩ := g1 hA.2
    rw [eE] at g1a
    subst g1a
    have e1c : nI (tNeg tn tl) < nI (tE tn tl) := nI_lt (by omega) (by omega)
    rw [if_pos e1c]
    obtain ⟨σ2, e2, M2⟩ := v_small hQ M1 (x := 33) (n := 1) (by decide) (by decide)
    have e3 := v_byte (tn := tn) hQ M2 (i := tE tn tl) (tl := tl) hEl ht hT
    have V2 : MV z (va_up v1 33 1) m := V1.frame (fun i hi => va_up_ne _ _ (by omega)) (va_up_ne _ _ (by decide))
    have k32 : va_up v1 33 1 32 = tN tn tl := by rw [va_up_ne _ _ (by decide), g1b]
    simp only [rS hQ M1, e2, Option.bind_some, rS hQ M2, e3]
    by_cases hB2 : tE tn tl < tl ∧ tn (tE tn tl) = 47
    · rw [if_pos hB2.1]
      have e47 : nI (tn (tE tn tl)) = 47 := by rw [hB2.2]; rfl
      rw [if_pos e47]
      rw [show nI (tE tn tl) + nI 1 = nI (tE tn tl + 1) from nI_1 _]
      obtain ⟨r3, σ3, v3, e4, M3, g3, g30, g4⟩ := v_digits (tn := tn) hQ M2 (x := 33) (k := tE tn tl + 1) (tl := tl) (by decide) (by decide) ht hT hB (by omega)
      have eM : dv tn (tE tn tl + 1) (rlen tn tl (tE tn tl + 1)) = tM tn tl := rfl
      rw [eM] at g3 g30
      have V3 : MV z v3 m := V2.frame (fun i hi => g4 i (by omega)) (g4 42 (by decide))
      have no3 : spT tn tl = none → RM Q σ0 (some (-1, σ3)) (rdS m p (spT tn tl)) := fun w => by rw [w]; exact ⟨σ3, rfl, z, v3, M3, V3⟩
      have sp : spT tn tl = (if 0 < rlen tn tl (tE tn tl + 1) ∧ tM tn tl < TOP ∧ tM tn tl ≠ 0 ∧ tE tn tl + 1 + rlen tn tl (tE tn tl + 1) = tl then some (tN tn tl, tM tn tl, tNeg tn tl) else none) := by
        unfold spT
        rw [if_pos hA, if_pos hB2]
      have hr2 := rlen_is tn tl (tE tn tl + 1)
      have hEl2 : tE tn tl + 1 + rlen tn tl (tE tn tl + 1) ≤ tl := by
        rcases Nat.eq_zero_or_pos (rlen tn tl (tE tn tl + 1)) with q | q
        · omega
        · have := (hr2.1 (rlen tn tl (tE tn tl + 1) - 1) (by omega)).1
          omega
      simp only [e4, Option.bind_some]
      by_cases hM : tM tn tl < TOP
      · obtain ⟨g3a, g3b⟩ := g3 hM
        subst g3a
        by_cases hp0 : 0 < rlen tn tl (tE tn tl + 1)
        · have e4c : ¬ nI (tE tn tl + 1 + rlen tn tl (tE tn tl + 1)) ≤ nI (tE tn tl + 1) := nI_ge (by omega) (by omega)
          rw [if_neg e4c]
          have e5 := v_isZero hQ M3 (x := 33) (by decide) (by decide)
          rw [g3b] at e5
          simp only [rS hQ M3, e5, Option.bind_some]
          by_cases hz : tM tn tl = 0
          · rw [if_neg (by rw [if_pos hz]; decide)]
            exact no3 (by rw [sp, if_neg (fun w => w.2.2.1 hz)])
          · rw [if_pos (by rw [if_neg hz])]
            unfold BX8_read_128
            by_cases he : tE tn tl + 1 + rlen tn tl (tE tn tl + 1) = tl
            · have e6c : nI tl ≤ nI (tE tn tl + 1 + rlen tn tl (tE tn tl + 1)) := nI_le (by omega) (by omega)
              rw [if_pos e6c]
              have k32' : v3 32 = tN tn tl := by rw [g4 32 (by decide), k32]
              have := r_128 hQ M3 V3 hp hneg.2 (by rw [k32']; exact hA.2) (by rw [g3b]; exact hM) (by rw [g3b]; omega)
              rw [k32', g3b] at this
              rw [sp, if_pos ⟨hp0, hM, hz, he⟩]
              exact this
            · have e6c : ¬ nI tl ≤ nI (tE tn tl + 1 + rlen tn tl (tE tn tl + 1)) := nI_ge (by omega) (by omega)
              rw [if_neg e6c]
              exact no3 (by rw [sp, if_neg (fun w => he w.2.2.2)])
        · have e4c : nI (tE tn tl + 1 + rlen tn tl (tE tn tl + 1)) ≤ nI (tE tn tl + 1) := nI_le (by omega) (by omega)
          rw [if_pos e4c]
          exact no3 (by rw [sp, if_neg (fun w => hp0 w.1)])
      · have := g30 hM
        subst this
        have e4c : (-1 : Int32) ≤ nI (tE tn tl + 1) := Int32.not_lt.mp (fun w => nI_pos (show tE tn tl + 1 < 2147483648 by omega) (Int32.lt_trans w (by decide)))
        rw [if_pos e4c]
        exact no3 (by rw [sp, if_neg (fun w => hM w.2.1)])
    · have e6 : ¬ (if tE tn tl < tl then nI (tn (tE tn tl)) else -1) = 47 := by
        by_cases hl : tE tn tl < tl
        · rw [if_pos hl]
          have := hB _ hl
          exact fun w => hB2 ⟨hl, (nI_eq (by omega) (by omega)).mp w⟩
        · rw [if_neg hl]; decide
      rw [if_neg e6]
      have sp : spT tn tl = (if tE tn tl = tl then some (tN tn tl, 1, tNeg tn tl) else none) := by
        unfold spT
        rw [if_pos hA, if_neg hB2]
      rw [sp]
      unfold BX8_read_128
      by_cases he : tE tn tl = tl
      · have e6c : nI tl ≤ nI (tE tn tl) := nI_le (by omega) (by omega)
        rw [if_pos e6c, if_pos he]
        have k33 : va_up v1 33 1 33 = 1 := va_up_self _ _ _
        have := r_128 hQ M2 V2 hp hneg.2 (by rw [k32]; exact hA.2) (by rw [k33]; exact TOP_1) (by rw [k33]; decide)
        rw [k32, k33] at this
        exact this
      · have e6c : ¬ nI tl ≤ nI (tE tn tl) := nI_ge (by omega) (by omega)
        rw [if_neg e6c, if_neg he]
        exact ⟨σ2, rfl, z, _, M2, V2⟩
  · have sp : spT tn tl = none := by
      unfold spT
      rw [if_neg hA]
    rw [sp]
    have : ¬ nI (tNeg tn tl) < r1 := by
      by_cases hN : tN tn tl < TOP
      · rw [(g1 hN).1]
        refine nI_nlt ?_ (by omega)
        have : ¬ 0 < rlen tn tl (tNeg tn tl) := fun w => hA ⟨w, hN⟩
        omega
      · rw [g0 hN]
        intro w
        exact nI_pos (show tNeg tn tl < 2147483648 by omega) (Int32.lt_trans w (by decide))
    rw [if_neg this]
    exact ⟨σ1, rfl, z, v1, M1, V1⟩
theorem mRead_is (m : g_M) (x : Int32) : mRead m x = if isP x then rdS (m.1, (0, m.2.1.2), m.2.2) (pOf x) (spT m.2.1.2 m.2.1.1) else (-1, m.1, (0, m.2.1.2), m.2.2) := by
  unfold mRead rdS
  cases spT m.2.1.2 m.2.1.1 with
  | none =>
    simp only [Option.elim]
    split <;> rfl
  | some f =>
    simp only [Option.elim]
theorem r_read (hQ : kM Q) {σ : g_S} (C : MS Q σ0 σ m) (x : Int32) : RM Q σ0 (fX8_read σ (Q 0) x) (mRead m x) := by
  obtain ⟨z, v, M, V⟩ := C
  obtain ⟨σ1, e1, M1⟩ := v_p0 hQ M 0
  obtain ⟨σ2, e2, M2⟩ := v_p5 hQ M1 0
  rw [nI_0] at e1 e2
  obtain ⟨a1, ⟨a2, a3, a4⟩, a5, a6⟩ := id V
  have V2 : MV (0, z.2.1, z.2.2.1, 0, z.2.2.2.2) v (m.1, (0, m.2.1.2), m.2.2) := ⟨a1, ⟨rfl, by show 0 ≤ 1400; omega, fun k hk => absurd hk (Nat.not_lt_zero _)⟩, a5, a6⟩
  rw [mRead_is]
  unfold fX8_read
  simp only [e1, Option.bind_some, rS hQ M1, e2, r_isP]
  by_cases hx : isP x
  · rw [if_neg (by rw [if_pos hx]; decide), if_pos hx]
    obtain ⟨p, hp, rfl⟩ : ∃ p, p < 16 ∧ x = nI p := ⟨_, isP_of hx⟩
    have h := r_read50 (tn := m.2.1.2) hQ M2 V2 hp a3 (fun j hj => (a4 j hj).1) (fun j hj => (a4 j hj).2)
    have e3 := v_byte (tn := m.2.1.2) hQ M2 (i := 0) (tl := m.2.1.1) (by omega) a3 (fun j hj => (a4 j hj).1)
    rw [nI_0] at e3
    rw [a2]
    simp only [rS hQ M2, e3, Option.bind_some]
    rw [(isP_nI hp).2]
    unfold BX8_read_40
    have hng : tNeg m.2.1.2 m.2.1.1 = if 0 < m.2.1.1 ∧ m.2.1.2 0 = 45 then 1 else 0 := rfl
    by_cases hm : 0 < m.2.1.1 ∧ m.2.1.2 0 = 45
    · rw [if_pos hm] at hng
      rw [hng] at h
      have e45 : nI (m.2.1.2 0) = 45 := by rw [hm.2]; rfl
      rw [if_pos hm.1, if_pos e45, if_neg (show ¬ (1 : Int32) = 0 by decide)]
      exact h
    · rw [if_neg hm] at hng
      rw [hng] at h
      have e6 : ¬ (if 0 < m.2.1.1 then nI (m.2.1.2 0) else -1) = 45 := by
        by_cases hl : 0 < m.2.1.1
        · rw [if_pos hl]
          have := (a4 0 hl).2
          exact fun w => hm ⟨hl, (nI_eq (by omega) (by omega)).mp w⟩
        · rw [if_neg hl]; decide
      rw [if_neg e6, if_pos (show (0 : Int32) = 0 from rfl)]
      exact h
  · rw [if_pos (by rw [if_neg hx]), if_neg hx]
    exact ⟨σ2, rfl, _, v, M2, V2⟩
end MY
