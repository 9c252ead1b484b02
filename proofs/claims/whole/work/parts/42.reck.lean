/-! Reckoner: sums, products -/
def Kept (v v' : Nat → Nat) (y y' : g_Y) : Prop := (∀ i, i < 32 → v' i = v i) ∧ (∀ p, p < 16 → y'.1 p = y.1 p) ∧ y'.2 = y.2
def RR (K : g_Q9) (σb : g_S) (y : g_Y) (v : Nat → Nat) (o : Option (Int32 × g_S)) (r : Int32 × g_Fr) : Prop := ∃ σ' y' v', o = some (r.1, σ') ∧ St K σb σ' y' v' ∧ Kept v v' y y' ∧ (r.1 = 0 → v' 32 = r.2.1 ∧ v' 33 = r.2.2.1 ∧ y'.1 16 = r.2.2.2)
section RK
variable {K : g_Q9} {σb σ : g_S} {y : g_Y} {v : Nat → Nat}
theorem t_over (hK : kOK K) (S : St K σb σ y v) {p q : Nat} (hp : p < 45) (hq : q < 45) (p4 : p < 34 ∨ 36 < p) (q4 : q < 34 ∨ 36 < q) (h1 : v p < WB) (h2 : v q < WB) : ∃ σ' v', fX4_over σ (K.2.2.1 1) (K.1.1 p) (K.1.1 q) = some (K.1.1 34, σ') ∧ St K σb σ' y v' ∧ v' 34 = v p / v q ∧ ∀ i, i < 34 ∨ 36 < i → v' i = v i := by
  obtain ⟨σ', v', e1, S1, e3, e4, e5⟩ := t_divide hK S hp hq p4 q4 h1 h2
  refine ⟨σ', v', ?_, S1, e3, e5⟩
  unfold fX4_over
  simp only [rdR hK S, rdR hK S1, Option.bind_some, e1]
theorem t_answer (hK : kOK K) (S : St K σb σ y v) : fX4_answer σ (K.2.2.1 1) = some (if v 32 < TOP ∧ v 33 < TOP then 0 else -3, σ) := by
  unfold fX4_answer BX4_answer_16
  have e := t_fitsF hK S (p := 16) (by decide)
  rw [show 2 * 16 = 32 from rfl, show 32 + 1 = 33 from rfl] at e
  simp only [rdR hK S, rdG hK S, Option.bind_some, e]
  by_cases h : v 32 < TOP ∧ v 33 < TOP
  · rw [if_pos h, if_pos h]; rfl
  · rw [if_neg h, if_neg h]; rfl
theorem t_addSides (hK : kOK K) (S : St K σb σ y v) {b1 b2 : Nat} (h1 : b1 ≤ 1) (h2 : b2 ≤ 1) (l1 : v 42 < WB) (l2 : v 43 < WB) : ∃ σ', fX4_addSides σ (K.2.2.1 1) (nI b1) (nI b2) = some σ' ∧ St K σb σ' (va_up y.1 16 (sz (sT (v 42) (v 43) b1 b2) (sF (v 42) (v 43) b1 b2)), y.2) (va_up v 32 (sT (v 42) (v 43) b1 b2)) := by
  have w := hK.2.1 32 (by omega)
  have i32 : (32 : Nat) < 45 := by decide
  have i42 : (42 : Nat) < 45 := by decide
  have i43 : (43 : Nat) < 45 := by decide
  unfold fX4_addSides BX4_addSides_103 sT sF
  by_cases hb : b1 = b2
  · obtain ⟨σ1, e1, S1⟩ := t_sum hK S i32 i42 i43 (by decide) (by decide) l1 l2 w
    obtain ⟨σ2, e2, S2⟩ := t_sign hK S1 (p := 16) (n := b1) (by decide) h1
    rw [show 2 * 16 = 32 from rfl, va_up_self] at S2
    refine ⟨σ2, ?_, by rw [if_pos hb, if_pos hb]; exact S2⟩
    rw [if_pos (by rw [hb])]
    simp only [rdR hK S, rdG hK S, rdR hK S1, rdG hK S1, Option.bind_some, S.n hK i32, e1, e2]
  · rw [if_neg (fun e => hb ((nI_eq (by omega) (by omega)).mp e)), if_neg hb, if_neg hb]
    simp only [rdR hK S, rdG hK S, Option.bind_some, S.n hK i42, S.n hK i32, t_order hK S i42 i43]
    by_cases hlt : v 42 < v 43
    · obtain ⟨σ1, e1, S1⟩ := t_dif hK S i32 i43 i42 (by decide) (by decide) l2 (by omega) w
      obtain ⟨σ2, e2, S2⟩ := t_sign hK S1 (p := 16) (n := b2) (by decide) h2
      rw [show 2 * 16 = 32 from rfl, va_up_self] at S2
      refine ⟨σ2, ?_, by rw [if_pos hlt, if_pos hlt]; exact S2⟩
      rw [if_pos ((cmpI_neg _ _).mpr hlt)]
      simp only [rdR hK S1, rdG hK S1, Option.bind_some, e1, e2]
    · obtain ⟨σ1, e1, S1⟩ := t_dif hK S i32 i42 i43 (by decide) (by decide) l1 (by omega) w
      obtain ⟨σ2, e2, S2⟩ := t_sign hK S1 (p := 16) (n := b1) (by decide) h1
      rw [show 2 * 16 = 32 from rfl, va_up_self] at S2
      refine ⟨σ2, ?_, by rw [if_neg hlt, if_neg hlt]; exact S2⟩
      rw [if_neg (fun e => hlt ((cmpI_neg _ _).mp e))]
      simp only [rdR hK S1, rdG hK S1, Option.bind_some, e1, e2]
theorem sT_mul (A B b1 b2 g : Nat) : sT (A * g) (B * g) b1 b2 = sT A B b1 b2 * g := by
  unfold sT
  by_cases hb : b1 = b2
  · rw [if_pos hb, if_pos hb, Nat.add_mul]
  · rw [if_neg hb, if_neg hb]
    by_cases h : A < B
    · rw [if_pos h, Nat.sub_mul]
      rcases Nat.eq_zero_or_pos g with q | q
      · rw [q]; simp
      · rw [if_pos (Nat.mul_lt_mul_of_pos_right h q)]
    · rw [if_neg h, if_neg (fun e => h (Nat.lt_of_mul_lt_mul_right e)), Nat.sub_mul]
theorem sF_mul (A B b1 b2 : Nat) {g : Nat} (hg : 0 < g) : sF (A * g) (B * g) b1 b2 = sF A B b1 b2 := by
  unfold sF
  by_cases hb : b1 = b2
  · rw [if_pos hb, if_pos hb]
  · rw [if_neg hb, if_neg hb]
    by_cases h : A < B
    · rw [if_pos h, if_pos (Nat.mul_lt_mul_of_pos_right h hg)]
    · rw [if_neg h, if_neg (fun e => h (Nat.lt_of_mul_lt_mul_right e))]
theorem sT_or (A B b1 b2 : Nat) : sT A B b1 b2 + B = A ∨ sT A B b1 b2 + A = B ∨ sT A B b1 b2 = A + B := by
  unfold sT
  split
  · exact Or.inr (Or.inr rfl)
  · split <;> omega
theorem sT_le (A B b1 b2 : Nat) : sT A B b1 b2 ≤ A + B := by
  unfold sT
  split
  · omega
  · split <;> omega
theorem sz_div {t k fl : Nat} (hk : 0 < k) (hd : k ∣ t) : sz (t / k) fl = sz t fl := by
  obtain ⟨c, rfl⟩ := hd
  unfold sz
  rw [Nat.mul_div_cancel_left _ hk]
  by_cases h : c = 0
  · rw [if_pos h, if_pos (by rw [h, Nat.mul_zero])]
  · rw [if_neg h, if_neg (fun e => by rcases Nat.mul_eq_zero.mp e with q | q; omega; exact h q)]
theorem t_add (hK : kOK K) (S : St K σb σ y v) {p q b2 : Nat} (hp : p < 16) (hq : q < 16) (hx : fOK (v (2 * p), v (2 * p + 1), y.1 p)) (hz : fOK (v (2 * q), v (2 * q + 1), y.1 q)) (hb2 : b2 ≤ 1) :
    RR K σb y v (fX4_add σ (K.2.2.1 1) (K.2.1 p) (K.2.1 q) (nI b2)) (cRes (sT (v (2 * p) * v (2 * q + 1)) (v (2 * q) * v (2 * p + 1)) (y.1 p) b2) (v (2 * p + 1) * v (2 * q + 1)) (sF (v (2 * p) * v (2 * q + 1)) (v (2 * q) * v (2 * p + 1)) (y.1 p) b2)) := by
  obtain ⟨x1, x2, x3, x4, x5, x6⟩ := hx
  obtain ⟨z1, z2, z3, z4, z5, z6⟩ := hz
  simp only at x1 x2 x3 x4 x5 x6 z1 z2 z3 z4 z5 z6
  have i32 : (32 : Nat) < 45 := by decide
  have i33 : (33 : Nat) < 45 := by decide
  have i34 : (34 : Nat) < 45 := by decide
  have i37 : (37 : Nat) < 45 := by decide
  have i39 : (39 : Nat) < 45 := by decide
  have i40 : (40 : Nat) < 45 := by decide
  have i41 : (41 : Nat) < 45 := by decide
  have i42 : (42 : Nat) < 45 := by decide
  have i43 : (43 : Nat) < 45 := by decide
  have w32 := hK.2.1 32 (by omega)
  have w33 := hK.2.1 33 (by omega)
  have w42 := hK.2.1 42 (by omega)
  have w43 := hK.2.1 43 (by omega)
  generalize en1 : v (2 * p) = n1 at *
  generalize ed1 : v (2 * p + 1) = d1 at *
  generalize en2 : v (2 * q) = n2 at *
  generalize ed2 : v (2 * q + 1) = d2 at *
  have hg := Nat.gcd_pos_of_pos_right d1 z2
  have gle1 : Nat.gcd d1 d2 ≤ d1 := Nat.gcd_le_left _ x2
  -- the common divisor of the denominators
  obtain ⟨σ1, v1, e1, S1, g1, f1⟩ := t_cd hK S (p := 2 * p + 1) (q := 2 * q + 1) (by omega) (by omega) (by omega) (by omega) (TOP_WB (by rw [ed1]; exact x3)) (TOP_WB (by rw [ed2]; exact z3))
  rw [ed1, ed2] at g1
  obtain ⟨g, hgdef⟩ : ∃ g, g = Nat.gcd d1 d2 := ⟨_, rfl⟩
  rw [← hgdef] at g1 hg gle1
  obtain ⟨σ2, e2, S2⟩ := t_become hK S1 i39 i37 (Or.inl (by rw [g1]; omega))
  rw [g1] at S2
  obtain ⟨v2, ev2⟩ : ∃ v2, v2 = va_up v1 39 g := ⟨_, rfl⟩
  rw [← ev2] at S2
  have f2 : ∀ i, i < 34 → v2 i = v i := fun i hi => by rw [ev2, va_up_ne _ _ (by omega), f1 i (by omega)]
  have k2 : v2 39 = g := by rw [ev2, va_up_self]
  -- first
  obtain ⟨σ3, v3, e3, S3, g3, f3⟩ := t_over hK S2 (p := 2 * p + 1) (q := 39) (by omega) i39 (by omega) (by omega) (TOP_WB (by rw [f2 _ (by omega), ed1]; exact x3)) (TOP_WB (by rw [k2]; omega))
  rw [f2 _ (by omega), ed1, k2] at g3
  have fle : d1 / g ≤ d1 := Nat.div_le_self _ _
  obtain ⟨σ4, e4, S4⟩ := t_become hK S3 i40 i34 (Or.inl (by rw [g3]; omega))
  rw [g3] at S4
  obtain ⟨v4, ev4⟩ : ∃ v4, v4 = va_up v3 40 (d1 / g) := ⟨_, rfl⟩
  rw [← ev4] at S4
  have f4 : ∀ i, i < 34 → v4 i = v i := fun i hi => by rw [ev4, va_up_ne _ _ (by omega), f3 i (by omega), f2 i hi]
  have k4 : v4 39 = g := by rw [ev4, va_up_ne _ _ (by omega), f3 _ (by omega), k2]
  have k4' : v4 40 = d1 / g := by rw [ev4, va_up_self]
  -- second
  obtain ⟨σ5, v5, e5, S5, g5, f5⟩ := t_over hK S4 (p := 2 * q + 1) (q := 39) (by omega) i39 (by omega) (by omega) (TOP_WB (by rw [f4 _ (by omega), ed2]; exact z3)) (TOP_WB (by rw [k4]; omega))
  rw [f4 _ (by omega), ed2, k4] at g5
  have sle : d2 / g ≤ d2 := Nat.div_le_self _ _
  obtain ⟨σ6, e6, S6⟩ := t_become hK S5 i41 i34 (Or.inl (by rw [g5]; omega))
  rw [g5] at S6
  obtain ⟨v6, ev6⟩ : ∃ v6, v6 = va_up v5 41 (d2 / g) := ⟨_, rfl⟩
  rw [← ev6] at S6
  have f6 : ∀ i, i < 34 → v6 i = v i := fun i hi => by rw [ev6, va_up_ne _ _ (by omega), f5 i (by omega), f4 i hi]
  have k6 : v6 39 = g := by rw [ev6, va_up_ne _ _ (by omega), f5 _ (by omega), k4]
  have k6' : v6 40 = d1 / g := by rw [ev6, va_up_ne _ _ (by omega), f5 _ (by omega), k4']
  have k6'' : v6 41 = d2 / g := by rw [ev6, va_up_self]
  -- the sides
  obtain ⟨σ7, e7, S7⟩ := t_prod hK S6 (i := 42) (p := 2 * p) (q := 41) i42 (by omega) i41 (by omega) (by decide) (by rw [f6 _ (by omega), en1]; exact x1) (by rw [k6'']; omega) w42
  rw [f6 _ (by omega), en1, k6''] at S7
  obtain ⟨σ8, e8, S8⟩ := t_prod hK S7 (i := 43) (p := 2 * q) (q := 40) i43 (by omega) i40 (by omega) (by decide) (by rw [va_up_ne _ _ (by omega), f6 _ (by omega), en2]; exact z1) (by rw [va_up_ne _ _ (by omega), k6']; omega) w43
  rw [va_up_ne _ _ (by omega), f6 _ (by omega), en2, va_up_ne _ _ (by omega), k6'] at S8
  obtain ⟨v8, ev8⟩ : ∃ v8, v8 = va_up (va_up v6 42 (n1 * (d2 / g))) 43 (n2 * (d1 / g)) := ⟨_, rfl⟩
  rw [← ev8] at S8
  have k8 : v8 42 = n1 * (d2 / g) := by rw [ev8, va_up_ne _ _ (by omega), va_up_self]
  have k8' : v8 43 = n2 * (d1 / g) := by rw [ev8, va_up_self]
  have f8 : ∀ i, i ≠ 42 → i ≠ 43 → v8 i = v6 i := fun i h1 h2 => by rw [ev8, va_up_ne _ _ h2, va_up_ne _ _ h1]
  have lA : n1 * (d2 / g) < WB := TOP_M x1 (by omega)
  have lB : n2 * (d1 / g) < WB := TOP_M z1 (by omega)
  obtain ⟨σ9, e9, S9⟩ := t_addSides hK S8 (b1 := y.1 p) (b2 := b2) x5 hb2 (by rw [k8]; exact lA) (by rw [k8']; exact lB)
  rw [k8, k8'] at S9
  have hTm := sT_mul (n1 * (d2 / g)) (n2 * (d1 / g)) (y.1 p) b2 g
  have hFm := sF_mul (n1 * (d2 / g)) (n2 * (d1 / g)) (y.1 p) b2 hg
  have hor := sT_or (n1 * (d2 / g)) (n2 * (d1 / g)) (y.1 p) b2
  have hle := sT_le (n1 * (d2 / g)) (n2 * (d1 / g)) (y.1 p) b2
  have hdv1 : d1 / g * g = d1 := Nat.div_mul_cancel (by rw [hgdef]; exact Nat.gcd_dvd_left _ _)
  have hdv2 : d2 / g * g = d2 := Nat.div_mul_cancel (by rw [hgdef]; exact Nat.gcd_dvd_right _ _)
  rw [Nat.mul_assoc, Nat.mul_assoc, hdv1, hdv2] at hTm hFm
  generalize et : sT (n1 * (d2 / g)) (n2 * (d1 / g)) (y.1 p) b2 = t at *
  generalize efl : sF (n1 * (d2 / g)) (n2 * (d1 / g)) (y.1 p) b2 = fl at *
  have lS : t < WB := by
    have := TOP_S x1 (show d2 / g < TOP by omega) z1 (show d1 / g < TOP by omega)
    omega
  obtain ⟨v9, ev9⟩ : ∃ v9, v9 = va_up v8 32 t := ⟨_, rfl⟩
  rw [← ev9] at S9
  obtain ⟨y9, ey9⟩ : ∃ y9 : g_Y, y9 = (va_up y.1 16 (sz t fl), y.2) := ⟨_, rfl⟩
  rw [← ey9] at S9
  have k9 : v9 32 = t := by rw [ev9, va_up_self]
  have k9' : v9 39 = g := by rw [ev9, va_up_ne _ _ (by omega), f8 _ (by omega) (by omega), k6]
  -- what the sum shares with the common divisor
  obtain ⟨σa, va, ea, Sa, ga, fa⟩ := t_cd hK S9 i32 i39 (by omega) (by omega) (by rw [k9]; exact lS) (TOP_WB (by rw [k9']; omega))
  rw [k9, k9'] at ga
  have hk := Nat.gcd_pos_of_pos_right t hg
  have kle : Nat.gcd t g ≤ g := Nat.gcd_le_right _ hg
  obtain ⟨σc, vc, ec, Sc, gc, fc⟩ := t_over hK Sa i32 i37 (by omega) (by omega) (by rw [fa _ (by omega), k9]; exact lS) (TOP_WB (by rw [ga]; omega))
  rw [fa _ (by omega), k9, ga] at gc
  have tle : t / Nat.gcd t g ≤ t := Nat.div_le_self _ _
  obtain ⟨σd, ed, Sd⟩ := t_become hK Sc i32 i34 (Or.inr ⟨by rw [gc]; omega, w32⟩)
  rw [gc] at Sd
  obtain ⟨vd, evd⟩ : ∃ vd, vd = va_up vc 32 (t / Nat.gcd t g) := ⟨_, rfl⟩
  rw [← evd] at Sd
  have fd : ∀ i, i ≠ 32 → (i < 34 ∨ 38 < i) → vd i = v9 i := fun i h1 h2 => by rw [evd, va_up_ne _ _ h1, fc _ (by omega), fa _ (by omega)]
  have kd : vd 37 = Nat.gcd t g := by rw [evd, va_up_ne _ _ (by omega), fc _ (by omega), ga]
  have kd2 : vd (2 * q + 1) = d2 := by rw [fd _ (by omega) (by omega), ev9, va_up_ne _ _ (by omega), f8 _ (by omega) (by omega), f6 _ (by omega), ed2]
  obtain ⟨σe, ve, ee, Se, ge, fe⟩ := t_over hK Sd (p := 2 * q + 1) (q := 37) (by omega) i37 (by omega) (by omega) (TOP_WB (by rw [kd2]; exact z3)) (TOP_WB (by rw [kd]; omega))
  rw [kd2, kd] at ge
  have ke : ve 40 = d1 / g := by rw [fe _ (by omega), fd _ (by omega) (by omega), ev9, va_up_ne _ _ (by omega), f8 _ (by omega) (by omega), k6']
  have dle : d2 / Nat.gcd t g ≤ d2 := Nat.div_le_self _ _
  obtain ⟨σf, ef, Sf⟩ := t_prod hK Se i33 i40 i34 (by decide) (by decide) (by rw [ke]; omega) (by rw [ge]; omega) w33
  rw [ke, ge] at Sf
  obtain ⟨vf, evf⟩ : ∃ vf, vf = va_up ve 33 (d1 / g * (d2 / Nat.gcd t g)) := ⟨_, rfl⟩
  rw [← evf] at Sf
  have kf : vf 32 = t / Nat.gcd t g := by rw [evf, va_up_ne _ _ (by omega), fe _ (by omega), evd, va_up_self]
  have kf' : vf 33 = d1 / g * (d2 / Nat.gcd t g) := by rw [evf, va_up_self]
  have ff : ∀ i, i < 32 → vf i = v i := fun i hi => by rw [evf, va_up_ne _ _ (by omega), fe _ (by omega), fd _ (by omega) (by omega), ev9, va_up_ne _ _ (by omega), f8 _ (by omega) (by omega), f6 _ (by omega)]
  have hA := t_answer hK Sf
  obtain ⟨m1, m2⟩ := a_add (t := t) x4 z4 x2 z2 (by rw [← hgdef]; exact hor)
  rw [← hgdef, ← hTm] at m1 m2
  rw [kf, kf', m1, m2] at hA
  refine ⟨σf, y9, vf, ?_, Sf, ⟨ff, fun r hr => by rw [ey9]; exact va_up_ne _ _ (by omega), by rw [ey9]⟩, ?_⟩
  · unfold fX4_add
    simp only [rdR hK S, rdF hK S (show p < 17 by omega), rdF hK S (show q < 17 by omega), Option.bind_some, e1, S1.n hK i39, e2, rdR hK S2, rdF hK S2 (show p < 17 by omega), e3, S3.n hK i40, e4, rdR hK S4, rdF hK S4 (show q < 17 by omega), e5, S5.n hK i41, e6, rdR hK S6, rdF hK S6 (show p < 17 by omega), S6.n hK i42, e7, rdR hK S7, rdF hK S7 (show q < 17 by omega), S7.n hK i43, e8, rdR hK S8, rdF hK S8 (show p < 17 by omega), e9, rdR hK S9, rdG hK S9, ea, rdR hK Sa, rdG hK Sa, ec, Sc.n hK i32, ed, rdR hK Sd, rdG hK Sd, rdF hK Sd (show q < 17 by omega), ee, Se.n hK i33, ef, rdR hK Sf, hA]
    unfold cRes
    split <;> rfl
  · intro h0
    unfold cRes at h0 ⊢
    by_cases hc : sT (n1 * d2) (n2 * d1) (y.1 p) b2 / Nat.gcd (sT (n1 * d2) (n2 * d1) (y.1 p) b2) (d1 * d2) < TOP ∧ d1 * d2 / Nat.gcd (sT (n1 * d2) (n2 * d1) (y.1 p) b2) (d1 * d2) < TOP
    · rw [if_pos hc]
      refine ⟨by rw [kf]; exact m1, by rw [kf']; exact m2, ?_⟩
      show y9.1 16 = sz _ _
      rw [ey9, hFm, ← m1, sz_div hk (Nat.gcd_dvd_left _ _)]
      simp only [va_up_self]
    · rw [if_neg hc] at h0
      exact absurd h0 (by decide)
end RK
