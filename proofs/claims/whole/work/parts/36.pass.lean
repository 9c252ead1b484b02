/-! Lehmer's pass: what findPass finds -/
def LI (X Y : Nat) (a b c d : Int) (XK YK : Nat) : Prop := lpat a b c d ∧ ((a ≤ 2147483647 ∧ -2147483647 ≤ a) ∧ (b ≤ 2147483647 ∧ -2147483647 ≤ b) ∧ (c ≤ 2147483647 ∧ -2147483647 ≤ c) ∧ (d ≤ 2147483647 ∧ -2147483647 ≤ d)) ∧ (XK : Int) = a * X + b * Y ∧ (YK : Int) = c * X + d * Y ∧ YK ≤ XK ∧ XK ≤ X ∧ Nat.gcd XK YK = Nat.gcd X Y ∧ ((b = 0 ∧ XK = X ∧ YK = Y) ∨ 2 * (XK * YK) ≤ X * Y)
theorem LI_0 {X Y : Nat} (h : Y ≤ X) : LI X Y 1 0 0 1 X Y :=
  ⟨Or.inl (by omega), by omega, by simp, by simp, h, Nat.le_refl _, rfl, Or.inl ⟨rfl, rfl, rfl⟩⟩
theorem half_mod {X Y : Nat} (h : Y ≤ X) (h0 : 0 < Y) : 2 * (X % Y) ≤ X := by
  have h1 := Nat.mod_lt X h0
  have h2 := Nat.div_add_mod X Y
  have h3 : 1 ≤ X / Y := (Nat.one_le_div_iff h0).mpr h
  have h4 : Y * 1 ≤ Y * (X / Y) := Nat.mul_le_mul_left _ h3
  omega
theorem prod_half {X Y : Nat} (h : Y ≤ X) (h0 : 0 < Y) : 2 * (Y * (X % Y)) ≤ X * Y := by
  have h1 := half_mod h h0
  have h2 : Y * (2 * (X % Y)) ≤ Y * X := Nat.mul_le_mul_left _ h1
  rw [Nat.mul_comm X Y]
  have : 2 * (Y * (X % Y)) = Y * (2 * (X % Y)) := by ac_rfl
  omega
theorem prod_le {X Y : Nat} (h : Y ≤ X) (h0 : 0 < Y) : Y * (X % Y) ≤ X * Y := by
  have := prod_half h h0
  omega
theorem gcd_step (X Y : Nat) : Nat.gcd Y (X % Y) = Nat.gcd X Y := by
  rw [Nat.gcd_comm X Y, Nat.gcd_rec Y X, Nat.gcd_comm]
theorem LI_step {X Y : Nat} {a b c d q : Int} {XK YK : Nat} (h : LI X Y a b c d XK YK) (hq : 0 ≤ q) (h1 : q * YK ≤ XK) (h2 : (XK : Int) < (q + 1) * YK) (hc1 : a - q * c ≤ 2147483647 ∧ -2147483647 ≤ a - q * c) (hd1 : b - q * d ≤ 2147483647 ∧ -2147483647 ≤ b - q * d) : LI X Y c d (a - q * c) (b - q * d) YK (XK % YK) := by
  obtain ⟨p1, ⟨pa, pb, pc, pd⟩, p2, p3, p4, p5, p6, p7⟩ := h
  rw [Int.add_mul, Int.one_mul] at h2
  have hY0 : 0 < YK := by
    rcases Nat.eq_zero_or_pos YK with z | z
    · rw [z] at h1 h2
      simp at h1 h2
      omega
    · exact z
  obtain ⟨n, rfl⟩ : ∃ n : Nat, q = n := ⟨q.toNat, by omega⟩
  have h3 : n * YK ≤ XK := by
    have : ((n * YK : Nat) : Int) ≤ XK := by rw [Int.natCast_mul]; exact h1
    omega
  have h4 : XK < n * YK + YK := by
    have : (XK : Int) < ((n * YK + YK : Nat) : Int) := by rw [Int.natCast_add, Int.natCast_mul]; exact h2
    omega
  have hm : XK % YK = XK - n * YK := by
    have e : XK = (XK - n * YK) + YK * n := by rw [Nat.mul_comm YK n]; omega
    conv => lhs; rw [e]
    rw [Nat.add_mul_mod_self_left]
    exact Nat.mod_eq_of_lt (by omega)
  have hmI : ((XK % YK : Nat) : Int) = XK - n * YK := by
    rw [hm, Int.natCast_sub h3, Int.natCast_mul]
  refine ⟨?_, ⟨pc, pd, hc1, hd1⟩, p3, ?_, Nat.le_of_lt (Nat.mod_lt _ hY0), Nat.le_trans p4 p5, by rw [gcd_step]; exact p6, Or.inr ?_⟩
  · rcases p1 with ⟨q1, q2, q3, q4⟩ | ⟨q1, q2, q3, q4⟩
    · have g1 : (n : Int) * c ≤ 0 := Int.mul_nonpos_of_nonneg_of_nonpos hq q3
      have g2 : 0 ≤ (n : Int) * d := Int.mul_nonneg hq q4
      exact Or.inr ⟨q3, q4, by omega, by omega⟩
    · have g1 : 0 ≤ (n : Int) * c := Int.mul_nonneg hq q3
      have g2 : (n : Int) * d ≤ 0 := Int.mul_nonpos_of_nonneg_of_nonpos hq q4
      exact Or.inl ⟨q3, q4, by omega, by omega⟩
  · rw [hmI, p2, p3]
    grind
  · rcases p7 with ⟨-, e1, e2⟩ | p7
    · rw [e1, e2] at p4 ⊢
      rw [e2] at hY0
      exact prod_half p4 hY0
    · have := prod_half p4 hY0
      have := prod_le p4 hY0
      omega
theorem l_bnd {x P K E M m : Int} (hP : 0 < P) (e : K = x * P + E) (h0 : 0 ≤ K) (h1 : K ≤ M * P) (h2 : -(m * P) ≤ E) (h3 : E ≤ m * P) : -m ≤ x ∧ x ≤ M + m := by
  constructor
  · have : -m * P ≤ x * P := by rw [Int.neg_mul]; omega
    exact Int.le_of_mul_le_mul_right this hP
  · have : x * P ≤ (M + m) * P := by rw [Int.add_mul]; omega
    exact Int.le_of_mul_le_mul_right this hP
theorem q_of {x y q : Int} (hx : 0 ≤ x) (hy : 0 < y) (e : x / y = q) : q * y ≤ x ∧ x < (q + 1) * y ∧ 0 ≤ q := by
  subst e
  exact ⟨Int.ediv_mul_le x (by omega), Int.lt_ediv_add_one_mul_self x hy, Int.ediv_nonneg hx (by omega)⟩
section PA
variable {L : g_L} {σ0 : g_S} {s : Nat → Nat} {lf : Nat → Nat → Nat} {v : Nat → Nat} {cd dv : Nat}
theorem p_passX (hc : g_not L cd) {a b c d : Int} (hb : b ≤ 2147483647 ∧ -2147483647 ≤ b) : BX0_findPass_237 (mkN L (cdS L σ0 cd dv a b c d) s lf) cd = some (if b = 0 then 0 else 1, mkN L (cdS L σ0 cd dv a b c d) s lf) := by
  unfold BX0_findPass_237 BX0_findPass_251
  rw [show (0 : Int64) = lZ 0 from rfl]
  simp only [cd_b hc, Option.bind_some]
  by_cases h : b = 0
  · rw [if_pos ((lZ_eq (by omega) (by omega) (by omega) (by omega)).mpr h), if_pos h]
    exact g_if_pos (by simp)
  · rw [if_neg (fun q => h ((lZ_eq (by omega) (by omega) (by omega) (by omega)).mp q)), if_neg h]
    exact g_if_pos (by simp)
theorem p_passL (hc : g_not L cd) {X Y x0 y0 P X' Y' : Nat} (hP : 0 < P) (eX : X = x0 * P + X') (eY : Y = y0 * P + Y') (hX' : X' < P) (hY' : Y' < P) (hx0 : x0 < 4611686018427387904) :
    ∀ (n t : Nat) (a b c d x y : Int) (XK YK : Nat), 100 - t < n → t ≤ 100 → LI X Y a b c d XK YK → x = a * x0 + b * y0 → y = c * x0 + d * y0 → 0 < x + a → 0 < x + b →
      ∃ a' b' c' d' XK' YK', LX0_findPass_53 n (mkN L (cdS L σ0 cd dv a b c d) s lf) cd (lZ x) (lZ y) (nI t) = some (if b' = 0 then 0 else 1, mkN L (cdS L σ0 cd dv a' b' c' d') s lf) ∧ LI X Y a' b' c' d' XK' YK' := by
  have hXP : (X : Int) ≤ 4611686018427387904 * (P : Int) := by
    have : (x0 + 1) * P ≤ 4611686018427387904 * P := Nat.mul_le_mul_right _ hx0
    rw [Nat.add_mul, Nat.one_mul] at this
    omega
  have eXI : (X : Int) = x0 * P + X' := by rw [eX, Int.natCast_add, Int.natCast_mul]
  have eYI : (Y : Int) = y0 * P + Y' := by rw [eY, Int.natCast_add, Int.natCast_mul]
  intro n
  induction n with
  | zero => intro t a b c d x y XK YK h; omega
  | succ n ih =>
    intro t a b c d x y XK YK hn ht hI ex ey hxa hxb
    obtain ⟨p1, ⟨pa, pb, pc, pd⟩, p2, p3, p4, p5, p6, p7⟩ := id hI
    have eK : (XK : Int) = x * P + (a * X' + b * Y') := by rw [p2, eXI, eYI, ex]; grind
    have eK2 : (YK : Int) = y * P + (c * X' + d * Y') := by rw [p3, eXI, eYI, ey]; grind
    have r1 := l_rng (a := a) (b := b) (P := P) (X := X') (Y := Y') (m := 2147483647) (by omega) (by omega) (by omega) (by omega) (by omega) (by rcases p1 with q | q; exact Or.inl ⟨q.1, q.2.1⟩; exact Or.inr ⟨q.1, q.2.1⟩) pa pb
    have r2 := l_rng (a := c) (b := d) (P := P) (X := X') (Y := Y') (m := 2147483647) (by omega) (by omega) (by omega) (by omega) (by omega) (by rcases p1 with q | q; exact Or.inr ⟨q.2.2.1, q.2.2.2⟩; exact Or.inl ⟨q.2.2.1, q.2.2.2⟩) pc pd
    have bx := l_bnd (M := 4611686018427387904) (by omega) eK (by omega) (by omega) r1.1 r1.2
    have by' := l_bnd (M := 4611686018427387904) (by omega) eK2 (by omega) (by omega) r2.1 r2.2
    have ex' := p_passX (σ0 := σ0) (dv := dv) (s := s) (lf := lf) (a := a) (c := c) (d := d) hc pb
    unfold LX0_findPass_53
    simp only [g_let]
    have em : (2147483647 : Int64) = lZ 2147483647 := rfl
    have e0 : (0 : Int64) = lZ 0 := rfl
    rw [em, e0]
    by_cases ht2 : t = 100
    · rw [if_pos (by rw [ht2]; decide)]
      exact ⟨a, b, c, d, XK, YK, ex', hI⟩
    · rw [if_neg (by rw [show (100 : Int32) = nI 100 from rfl]; exact nI_ge (by omega) (by omega))]
      simp only [cd_a hc, cd_b hc, cd_c hc, cd_d hc, Option.bind_some, lZ_add, lZ_mul, lZ_sub]
      by_cases h1 : y + c ≤ 0
      · rw [if_pos ((lZ_le (by omega) (by omega) (by omega) (by omega)).mpr h1)]
        exact ⟨a, b, c, d, XK, YK, ex', hI⟩
      · rw [if_neg (fun q => h1 ((lZ_le (by omega) (by omega) (by omega) (by omega)).mp q))]
        by_cases h2 : y + d ≤ 0
        · rw [if_pos ((lZ_le (by omega) (by omega) (by omega) (by omega)).mpr h2)]
          exact ⟨a, b, c, d, XK, YK, ex', hI⟩
        · rw [if_neg (fun q => h2 ((lZ_le (by omega) (by omega) (by omega) (by omega)).mp q)), lZ_div (by omega) (by omega) (by omega) (by omega), lZ_div (by omega) (by omega) (by omega) (by omega)]
          rw [g_if_pos (by rw [lZ_inj (by omega) (by omega) (by omega) (by omega)]; omega), g_if_pos (by rw [lZ_inj (by omega) (by omega) (by omega) (by omega)]; omega)]
          obtain ⟨q, hq⟩ : ∃ q, (x + a) / (y + c) = q := ⟨_, rfl⟩
          obtain ⟨q', hq'⟩ : ∃ q', (x + b) / (y + d) = q' := ⟨_, rfl⟩
          obtain ⟨f1, f2, f3⟩ := q_of (by omega) (by omega) hq
          obtain ⟨f4, f5, f6⟩ := q_of (by omega) (by omega) hq'
          have fq : q ≤ x + a := by rw [← hq]; exact Int.ediv_le_self _ (by omega)
          have fq' : q' ≤ x + b := by rw [← hq']; exact Int.ediv_le_self _ (by omega)
          rw [hq, hq']
          by_cases h3 : q = q'
          · rw [if_pos ((lZ_eq (by omega) (by omega) (by omega) (by omega)).mpr h3)]
            by_cases h4 : q ≤ 2147483647
            · rw [if_pos ((lZ_le (by omega) (by omega) (by omega) (by omega)).mpr h4)]
              subst h3
              have m1 := l_rng (a := c) (b := 0) (P := 2147483647) (X := q) (Y := 0) (m := 2147483647) (by omega) (by omega) h4 (by omega) (by omega) (by rcases Int.le_total 0 c with z | z; exact Or.inl ⟨z, Int.le_refl _⟩; exact Or.inr ⟨z, Int.le_refl _⟩) pc (by omega)
              have m2 := l_rng (a := d) (b := 0) (P := 2147483647) (X := q) (Y := 0) (m := 2147483647) (by omega) (by omega) h4 (by omega) (by omega) (by rcases Int.le_total 0 d with z | z; exact Or.inl ⟨z, Int.le_refl _⟩; exact Or.inr ⟨z, Int.le_refl _⟩) pd (by omega)
              rw [Int.zero_mul, Int.add_zero, Int.mul_comm c q] at m1
              rw [Int.zero_mul, Int.add_zero, Int.mul_comm d q] at m2
              simp only [lZ_mul, lZ_sub]
              rw [lZ_abs (by omega) (by omega)]
              simp only [Option.bind_some]
              by_cases h5 : (if 0 ≤ a - q * c then a - q * c else -(a - q * c)) ≤ 2147483647
              · rw [if_neg (fun z => by have := (lZ_gt (by split <;> omega) (by split <;> omega) (by omega) (by omega)).mp z; omega), lZ_abs (by omega) (by omega)]
                simp only [Option.bind_some]
                by_cases h6 : (if 0 ≤ b - q * d then b - q * d else -(b - q * d)) ≤ 2147483647
                · rw [if_pos ((lZ_le (by split <;> omega) (by split <;> omega) (by omega) (by omega)).mpr h6)]
                  simp only [cd_c hc, cd_d hc, cd_pa hc, cd_pb hc, cd_pc hc, cd_pd hc, Option.bind_some]
                  rw [nI_1]
                  have hqt := l_quot (P := P) (X := X') (Y := Y') (by omega) (by omega) (by omega) (by omega) (by omega) f3 p1 f1 f2 f4 f5
                  rw [← eK, ← eK2] at hqt
                  exact ih (t + 1) c d (a - q * c) (b - q * d) y (x - q * y) YK (XK % YK) (by omega) (by omega) (LI_step hI f3 hqt.1 hqt.2 (by split at h5 <;> omega) (by split at h6 <;> omega)) ey (by rw [ex, ey]; grind) (by omega) (by omega)
                · rw [if_neg (fun z => h6 ((lZ_le (by split <;> omega) (by split <;> omega) (by omega) (by omega)).mp z))]
                  exact ⟨a, b, c, d, XK, YK, ex', hI⟩
              · rw [if_pos ((lZ_gt (by split <;> omega) (by split <;> omega) (by omega) (by omega)).mpr (by omega))]
                exact ⟨a, b, c, d, XK, YK, ex', hI⟩
            · rw [if_neg (fun z => h4 ((lZ_le (by omega) (by omega) (by omega) (by omega)).mp z))]
              exact ⟨a, b, c, d, XK, YK, ex', hI⟩
          · rw [if_neg (fun z => h3 ((lZ_eq (by omega) (by omega) (by omega) (by omega)).mp z))]
            exact ⟨a, b, c, d, XK, YK, ex', hI⟩
end PA
