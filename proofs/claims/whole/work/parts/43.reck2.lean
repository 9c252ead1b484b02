/-! Reckoner: products, order, choice, powers -/
section RL
variable {K : g_Q9} {σb σ : g_S} {y : g_Y} {v : Nat → Nat}
theorem nI_bx {a b : Nat} (ha : a ≤ 1) (hb : b ≤ 1) : (nI a = nI b) ↔ a = b := nI_eq (by omega) (by omega)
theorem t_multiply (hK : kOK K) (S : St K σb σ y v) {p i j b2 : Nat} (hp : p < 16) (hi : i < 32) (hj : j < 32) (hx : fOK (v (2 * p), v (2 * p + 1), y.1 p)) (l1 : v i < TOP) (l2 : v j < TOP) (h2 : Nat.gcd (v i) (v j) = 1) (p2 : 0 < v j) (hb2 : b2 ≤ 1) :
    RR K σb y v (fX4_multiply σ (K.2.2.1 1) (K.2.1 p) (K.1.1 i) (K.1.1 j) (nI b2)) (cRes (v (2 * p) * v i) (v (2 * p + 1) * v j) (bx (y.1 p) b2)) := by
  obtain ⟨x1, x2, x3, x4, x5, x6⟩ := hx
  simp only at x1 x2 x3 x4 x5 x6
  have i32 : (32 : Nat) < 45 := by decide
  have i33 : (33 : Nat) < 45 := by decide
  have i34 : (34 : Nat) < 45 := by decide
  have i37 : (37 : Nat) < 45 := by decide
  have i40 : (40 : Nat) < 45 := by decide
  have i41 : (41 : Nat) < 45 := by decide
  have i42 : (42 : Nat) < 45 := by decide
  have i43 : (43 : Nat) < 45 := by decide
  have w32 := hK.2.1 32 (by omega)
  have w33 := hK.2.1 33 (by omega)
  generalize en1 : v (2 * p) = n1 at *
  generalize ed1 : v (2 * p + 1) = d1 at *
  generalize en2 : v i = n2 at *
  generalize ed2 : v j = d2 at *
  have hs1 := Nat.gcd_pos_of_pos_right n1 p2
  have hs2 := Nat.gcd_pos_of_pos_right n2 x2
  have sle1 : Nat.gcd n1 d2 ≤ d2 := Nat.gcd_le_right _ p2
  have sle2 : Nat.gcd n2 d1 ≤ d1 := Nat.gcd_le_right _ x2
  obtain ⟨m1, m2⟩ := a_mul x4 h2 x2 p2
  obtain ⟨s1, hs1d⟩ : ∃ g, g = Nat.gcd n1 d2 := ⟨_, rfl⟩
  obtain ⟨s2, hs2d⟩ : ∃ g, g = Nat.gcd n2 d1 := ⟨_, rfl⟩
  rw [← hs1d] at hs1 sle1
  rw [← hs2d] at hs2 sle2
  rw [← hs1d, ← hs2d] at m1 m2
  have q1 : n1 / s1 ≤ n1 := Nat.div_le_self _ _
  have q2 : d2 / s1 ≤ d2 := Nat.div_le_self _ _
  have q3 : n2 / s2 ≤ n2 := Nat.div_le_self _ _
  have q4 : d1 / s2 ≤ d1 := Nat.div_le_self _ _
  obtain ⟨σ1, v1, e1, S1, g1, f1⟩ := t_cd hK S (p := 2 * p) (q := j) (by omega) (by omega) (by omega) (by omega) (TOP_WB (by rw [en1]; exact x1)) (TOP_WB (by rw [ed2]; exact l2))
  rw [en1, ed2, ← hs1d] at g1
  obtain ⟨σ2, v2, e2, S2, g2, f2⟩ := t_over hK S1 (p := 2 * p) (q := 37) (by omega) i37 (by omega) (by omega) (TOP_WB (by rw [f1 _ (by omega), en1]; exact x1)) (TOP_WB (by rw [g1]; omega))
  rw [f1 _ (by omega), en1, g1] at g2
  obtain ⟨σ3, e3, S3⟩ := t_become hK S2 i40 i34 (Or.inl (by rw [g2]; omega))
  rw [g2] at S3
  obtain ⟨v3, ev3⟩ : ∃ v3, v3 = va_up v2 40 (n1 / s1) := ⟨_, rfl⟩
  rw [← ev3] at S3
  have f3 : ∀ i, i < 34 → v3 i = v i := fun i hi => by rw [ev3, va_up_ne _ _ (by omega), f2 i (by omega), f1 i (by omega)]
  have k3 : v3 37 = s1 := by rw [ev3, va_up_ne _ _ (by omega), f2 _ (by omega), g1]
  have k3' : v3 40 = n1 / s1 := by rw [ev3, va_up_self]
  obtain ⟨σ4, v4, e4, S4, g4, f4⟩ := t_over hK S3 (p := j) (q := 37) (by omega) i37 (by omega) (by omega) (TOP_WB (by rw [f3 _ (by omega), ed2]; exact l2)) (TOP_WB (by rw [k3]; omega))
  rw [f3 _ (by omega), ed2, k3] at g4
  obtain ⟨σ5, e5, S5⟩ := t_become hK S4 i41 i34 (Or.inl (by rw [g4]; omega))
  rw [g4] at S5
  obtain ⟨v5, ev5⟩ : ∃ v5, v5 = va_up v4 41 (d2 / s1) := ⟨_, rfl⟩
  rw [← ev5] at S5
  have f5 : ∀ i, i < 34 → v5 i = v i := fun i hi => by rw [ev5, va_up_ne _ _ (by omega), f4 i (by omega), f3 i hi]
  have k5 : v5 40 = n1 / s1 := by rw [ev5, va_up_ne _ _ (by omega), f4 _ (by omega), k3']
  have k5' : v5 41 = d2 / s1 := by rw [ev5, va_up_self]
  obtain ⟨σ6, v6, e6, S6, g6, f6⟩ := t_cd hK S5 (p := i) (q := 2 * p + 1) (by omega) (by omega) (by omega) (by omega) (TOP_WB (by rw [f5 _ (by omega), en2]; exact l1)) (TOP_WB (by rw [f5 _ (by omega), ed1]; exact x3))
  rw [f5 _ (by omega), f5 _ (by omega), en2, ed1, ← hs2d] at g6
  obtain ⟨σ7, v7, e7, S7, g7, f7⟩ := t_over hK S6 (p := i) (q := 37) (by omega) i37 (by omega) (by omega) (TOP_WB (by rw [f6 _ (by omega), f5 _ (by omega), en2]; exact l1)) (TOP_WB (by rw [g6]; omega))
  rw [f6 _ (by omega), f5 _ (by omega), en2, g6] at g7
  obtain ⟨σ8, e8, S8⟩ := t_become hK S7 i42 i34 (Or.inl (by rw [g7]; omega))
  rw [g7] at S8
  obtain ⟨v8, ev8⟩ : ∃ v8, v8 = va_up v7 42 (n2 / s2) := ⟨_, rfl⟩
  rw [← ev8] at S8
  have f8 : ∀ i, (i < 34 ∨ 38 < i) → i ≠ 42 → v8 i = v5 i := fun i h1 h2 => by rw [ev8, va_up_ne _ _ h2, f7 i (by omega), f6 i h1]
  have k8 : v8 37 = s2 := by rw [ev8, va_up_ne _ _ (by omega), f7 _ (by omega), g6]
  have k8' : v8 42 = n2 / s2 := by rw [ev8, va_up_self]
  obtain ⟨σ9, v9, e9, S9, g9, f9⟩ := t_over hK S8 (p := 2 * p + 1) (q := 37) (by omega) i37 (by omega) (by omega) (TOP_WB (by rw [f8 _ (by omega) (by omega), f5 _ (by omega), ed1]; exact x3)) (TOP_WB (by rw [k8]; omega))
  rw [f8 _ (by omega) (by omega), f5 _ (by omega), ed1, k8] at g9
  obtain ⟨σa, ea, Sa⟩ := t_become hK S9 i43 i34 (Or.inl (by rw [g9]; omega))
  rw [g9] at Sa
  obtain ⟨va, eva⟩ : ∃ va, va = va_up v9 43 (d1 / s2) := ⟨_, rfl⟩
  rw [← eva] at Sa
  have fa : ∀ i, (i < 34 ∨ 38 < i) → i ≠ 42 → i ≠ 43 → va i = v5 i := fun i h1 h2 h3 => by rw [eva, va_up_ne _ _ h3, f9 i (by omega), f8 i h1 h2]
  have ka : va 40 = n1 / s1 := by rw [fa _ (by omega) (by omega) (by omega), k5]
  have ka1 : va 41 = d2 / s1 := by rw [fa _ (by omega) (by omega) (by omega), k5']
  have ka2 : va 42 = n2 / s2 := by rw [eva, va_up_ne _ _ (by omega), f9 _ (by omega), k8']
  have ka3 : va 43 = d1 / s2 := by rw [eva, va_up_self]
  obtain ⟨σc, ec, Sc⟩ := t_prod hK Sa i32 i40 i42 (by decide) (by decide) (by rw [ka]; omega) (by rw [ka2]; omega) w32
  rw [ka, ka2] at Sc
  obtain ⟨σd, ed, Sd⟩ := t_prod hK Sc i33 i41 i43 (by decide) (by decide) (by rw [va_up_ne _ _ (by omega), ka1]; omega) (by rw [va_up_ne _ _ (by omega), ka3]; omega) w33
  rw [va_up_ne _ _ (by omega), va_up_ne _ _ (by omega), ka1, ka3, m1, m2] at Sd
  obtain ⟨vd, evd⟩ : ∃ vd, vd = va_up (va_up va 32 (n1 * n2 / Nat.gcd (n1 * n2) (d1 * d2))) 33 (d1 * d2 / Nat.gcd (n1 * n2) (d1 * d2)) := ⟨_, rfl⟩
  rw [← evd] at Sd
  have kd : vd 32 = n1 * n2 / Nat.gcd (n1 * n2) (d1 * d2) := by rw [evd, va_up_ne _ _ (by omega), va_up_self]
  have kd' : vd 33 = d1 * d2 / Nat.gcd (n1 * n2) (d1 * d2) := by rw [evd, va_up_self]
  have hbx : bx (y.1 p) b2 ≤ 1 := by unfold bx; split <;> omega
  obtain ⟨σe, ee, Se⟩ := t_sign hK Sd (p := 16) (n := bx (y.1 p) b2) (by decide) hbx
  rw [show 2 * 16 = 32 from rfl] at Se
  have hA := t_answer hK Se
  rw [kd, kd'] at hA
  refine ⟨σe, _, vd, ?_, Se, ⟨fun r hr => by rw [evd, va_up_ne _ _ (by omega), va_up_ne _ _ (by omega), fa _ (by omega) (by omega) (by omega), f5 _ (by omega)], fun r hr => va_up_ne _ _ (by omega), rfl⟩, ?_⟩
  · unfold fX4_multiply BX4_multiply_144
    simp only [rdR hK S, rdF hK S (show p < 17 by omega), Option.bind_some, e1, rdR hK S1, rdF hK S1 (show p < 17 by omega), e2, S2.n hK i40, e3, rdR hK S3, e4, S4.n hK i41, e5, rdR hK S5, rdF hK S5 (show p < 17 by omega), e6, rdR hK S6, e7, S7.n hK i42, e8, rdR hK S8, rdF hK S8 (show p < 17 by omega), e9, S9.n hK i43, ea, rdR hK Sa, rdG hK Sa, Sa.n hK i32, ec, rdR hK Sc, rdG hK Sc, Sc.n hK i33, ed, rdR hK Sd, rdF hK Sd (show p < 17 by omega), rdG hK Sd]
    have fin : ((fX2_sign σd (K.2.1 16) (nI (bx (y.1 p) b2))).bind fun r47 => (g_o r47 4 (K.2.2.1 1)).bind fun o48 => (fX4_answer r47 (K.2.2.1 1)).bind fun r49 => some (r49.1, r49.2)) = some ((cRes (n1 * n2) (d1 * d2) (bx (y.1 p) b2)).1, σe) := by
      rw [ee]
      simp only [Option.bind_some, rdR hK Se, hA]
      unfold cRes
      split <;> rfl
    by_cases hb : y.1 p = b2
    · rw [if_pos (by rw [hb]), ← fin]
      unfold bx
      rw [if_pos hb]
      rfl
    · rw [if_neg (fun z => hb ((nI_bx x5 hb2).mp z)), ← fin]
      unfold bx
      rw [if_neg hb]
      rfl
  · intro h0
    unfold cRes at h0 ⊢
    by_cases hc : n1 * n2 / Nat.gcd (n1 * n2) (d1 * d2) < TOP ∧ d1 * d2 / Nat.gcd (n1 * n2) (d1 * d2) < TOP
    · rw [if_pos hc]
      refine ⟨kd, kd', ?_⟩
      show va_up y.1 16 _ 16 = sz _ _
      rw [va_up_self, kd]
      rfl
    · rw [if_neg hc] at h0
      exact absurd h0 (by decide)
theorem t_orderF (hK : kOK K) (S : St K σb σ y v) {p q : Nat} (hp : p < 16) (hq : q < 16) (hx : fOK (v (2 * p), v (2 * p + 1), y.1 p)) (hz : fOK (v (2 * q), v (2 * q + 1), y.1 q)) :
    ∃ σ' v', fX4_order σ (K.2.2.1 1) (K.2.1 p) (K.2.1 q) = some (cOrd (v (2 * p), v (2 * p + 1), y.1 p) (v (2 * q), v (2 * q + 1), y.1 q), σ') ∧ St K σb σ' y v' ∧ ∀ i, i < 42 → v' i = v i := by
  obtain ⟨x1, x2, x3, x4, x5, x6⟩ := hx
  obtain ⟨z1, z2, z3, z4, z5, z6⟩ := hz
  simp only at x1 x2 x3 x4 x5 x6 z1 z2 z3 z4 z5 z6
  have i42 : (42 : Nat) < 45 := by decide
  have i43 : (43 : Nat) < 45 := by decide
  unfold fX4_order BX4_order_86 BX4_order_23 cOrd
  simp only [rdF hK S (show p < 17 by omega), rdF hK S (show q < 17 by omega), rdR hK S, Option.bind_some]
  by_cases hb : y.1 p = y.1 q
  · rw [if_pos (by rw [hb]), if_pos hb]
    obtain ⟨σ1, e1, S1⟩ := t_prod hK S (i := 42) (p := 2 * p) (q := 2 * q + 1) i42 (by omega) (by omega) (by omega) (by omega) x1 z3 (hK.2.1 42 (by omega))
    obtain ⟨σ2, e2, S2⟩ := t_prod hK S1 (i := 43) (p := 2 * q) (q := 2 * p + 1) i43 (by omega) (by omega) (by omega) (by omega) (by rw [va_up_ne _ _ (by omega)]; exact z1) (by rw [va_up_ne _ _ (by omega)]; exact x3) (hK.2.1 43 (by omega))
    rw [va_up_ne _ _ (show 2 * q ≠ 42 by omega), va_up_ne _ _ (show 2 * p + 1 ≠ 42 by omega)] at S2
    simp only [S.n hK i42, e1, Option.bind_some, rdR hK S1, rdF hK S1 (show q < 17 by omega), rdF hK S1 (show p < 17 by omega), S1.n hK i43, e2, rdF hK S2 (show p < 17 by omega)]
    have k1 := va_up_self (va_up v 42 (v (2 * p) * v (2 * q + 1))) 43 (v (2 * q) * v (2 * p + 1))
    have k2 : va_up (va_up v 42 (v (2 * p) * v (2 * q + 1))) 43 (v (2 * q) * v (2 * p + 1)) 42 = v (2 * p) * v (2 * q + 1) := by rw [va_up_ne _ _ (by omega), va_up_self]
    have fr : ∀ i, i < 42 → va_up (va_up v 42 (v (2 * p) * v (2 * q + 1))) 43 (v (2 * q) * v (2 * p + 1)) i = v i := fun i hi => by rw [va_up_ne _ _ (by omega), va_up_ne _ _ (by omega)]
    by_cases h0 : y.1 p = 0
    · rw [if_pos (by rw [h0]; rfl), if_pos h0]
      refine ⟨σ2, _, ?_, S2, fr⟩
      simp only [rdR hK S2, Option.bind_some, S2.n hK i42, t_order hK S2 i42 i43, k1, k2]
    · rw [if_neg (fun z => h0 ((ja_e0 (by omega)).mp z)), if_neg h0]
      refine ⟨σ2, _, ?_, S2, fr⟩
      simp only [rdR hK S2, Option.bind_some, S2.n hK i43, t_order hK S2 i43 i42, k1, k2]
  · rw [if_neg (fun z => hb ((nI_bx x5 z5).mp z)), if_neg hb]
    by_cases h0 : y.1 p = 0
    · rw [if_pos (by rw [h0]; rfl), if_pos h0]
      exact ⟨σ, v, rfl, S, fun _ _ => rfl⟩
    · rw [if_neg (fun z => h0 ((ja_e0 (by omega)).mp z)), if_neg h0]
      exact ⟨σ, v, rfl, S, fun _ _ => rfl⟩
theorem t_choose (hK : kOK K) (S : St K σb σ y v) {p : Nat} (hp : p < 16) (hx : fOK (v (2 * p), v (2 * p + 1), y.1 p)) : ∃ σ', fX4_choose σ (K.2.2.1 1) (K.2.1 p) = some (0, σ') ∧ St K σb σ' (va_up y.1 16 (y.1 p), y.2) (va_up (va_up v 32 (v (2 * p))) 33 (v (2 * p + 1))) := by
  obtain ⟨x1, x2, x3, x4, x5, x6⟩ := hx
  obtain ⟨σ1, e1, S1⟩ := t_becomeF hK S (p := 16) (r := p) (by decide) (by omega) (by omega) x1 x3 x5
  refine ⟨σ1, ?_, S1⟩
  unfold fX4_choose
  simp only [rdR hK S, rdG hK S, Option.bind_some, e1]
theorem t_grow (hK : kOK K) (S : St K σb σ y v) {r : Nat} (hr : r < 17) (l1 : v 32 < TOP) (l2 : v 33 < TOP) (l3 : v (2 * r) < TOP) (l4 : v (2 * r + 1) < TOP) (b1 : y.1 16 ≤ 1) (b2 : y.1 r ≤ 1) :
    ∃ σ' v', fX4_growBy σ (K.2.2.1 1) (K.2.1 r) = some (if v 32 * v (2 * r) < TOP ∧ v 33 * v (2 * r + 1) < TOP then 1 else 0, σ') ∧ St K σb σ' (va_up y.1 16 (sz (v 32 * v (2 * r)) (bx (y.1 16) (y.1 r))), y.2) v' ∧ v' 32 = v 32 * v (2 * r) ∧ v' 33 = v 33 * v (2 * r + 1) ∧ ∀ i, i < 32 → v' i = v i := by
  have i32 : (32 : Nat) < 45 := by decide
  have i33 : (33 : Nat) < 45 := by decide
  have i42 : (42 : Nat) < 45 := by decide
  have i43 : (43 : Nat) < 45 := by decide
  obtain ⟨σ1, e1, S1⟩ := t_prod hK S (i := 42) (p := 32) (q := 2 * r) i42 i32 (by omega) (by decide) (by omega) l1 l3 (hK.2.1 42 (by omega))
  obtain ⟨σ2, e2, S2⟩ := t_prod hK S1 (i := 43) (p := 33) (q := 2 * r + 1) i43 i33 (by omega) (by decide) (by omega) (by rw [va_up_ne _ _ (by omega)]; exact l2) (by rw [va_up_ne _ _ (by omega)]; exact l4) (hK.2.1 43 (by omega))
  rw [va_up_ne _ _ (show 33 ≠ 42 by omega), va_up_ne _ _ (show 2 * r + 1 ≠ 42 by omega)] at S2
  generalize eN : v 32 * v (2 * r) = N at *
  generalize eD : v 33 * v (2 * r + 1) = D at *
  have lN' : N < WB := by rw [← eN]; exact TOP_M l1 l3
  have lD' : D < WB := by rw [← eD]; exact TOP_M l2 l4
  obtain ⟨v2, ev2⟩ : ∃ v2, v2 = va_up (va_up v 42 N) 43 D := ⟨_, rfl⟩
  rw [← ev2] at S2
  have k2 : v2 42 = N := by rw [ev2, va_up_ne _ _ (by omega), va_up_self]
  have k2' : v2 43 = D := by rw [ev2, va_up_self]
  obtain ⟨σ3, e3, S3⟩ := t_become hK S2 i32 i42 (Or.inr ⟨by rw [k2]; exact lN', hK.2.1 32 (by omega)⟩)
  rw [k2] at S3
  obtain ⟨σ4, e4, S4⟩ := t_become hK S3 i33 i43 (Or.inr ⟨by rw [va_up_ne _ _ (by omega), k2']; exact lD', hK.2.1 33 (by omega)⟩)
  rw [va_up_ne _ _ (show 43 ≠ 32 by omega), k2'] at S4
  obtain ⟨v4, ev4⟩ : ∃ v4, v4 = va_up (va_up v2 32 N) 33 D := ⟨_, rfl⟩
  rw [← ev4] at S4
  have k4 : v4 32 = N := by rw [ev4, va_up_ne _ _ (by omega), va_up_self]
  have k4' : v4 33 = D := by rw [ev4, va_up_self]
  have hbx : bx (y.1 16) (y.1 r) ≤ 1 := by unfold bx; split <;> omega
  obtain ⟨σ5, e5, S5⟩ := t_sign hK S4 (p := 16) (n := bx (y.1 16) (y.1 r)) (by decide) hbx
  rw [show 2 * 16 = 32 from rfl, k4] at S5
  have hF := t_fitsF hK S5 (p := 16) (by decide)
  rw [show 2 * 16 = 32 from rfl, show 32 + 1 = 33 from rfl, k4, k4'] at hF
  refine ⟨σ5, v4, ?_, S5, k4, k4', fun i hi => by rw [ev4, va_up_ne _ _ (by omega), va_up_ne _ _ (by omega), ev2, va_up_ne _ _ (by omega), va_up_ne _ _ (by omega)]⟩
  unfold fX4_growBy BX4_growBy_87
  simp only [rdR hK S, rdG hK S, rdF hK S hr, Option.bind_some, S.n hK i42, e1, rdR hK S1, rdG hK S1, rdF hK S1 hr, S1.n hK i43, e2, rdR hK S2, rdG hK S2, S2.n hK i32, e3, rdR hK S3, rdG hK S3, S3.n hK i33, e4, rdR hK S4, rdG hK S4, rdF hK S4 hr]
  have fin : ((fX2_sign σ4 (K.2.1 16) (nI (bx (y.1 16) (y.1 r)))).bind fun r29 => (g_fr r29 4 (K.2.2.1 1) 0).bind fun v30 => (g_o r29 2 v30).bind fun o31 => (fX2_fits r29 v30).bind fun r32 => g_if (r32.1 = 0 ∨ r32.1 = 1) <| some (r32.1, r32.2)) = some (if N < TOP ∧ D < TOP then 1 else 0, σ5) := by
    rw [e5]
    simp only [Option.bind_some, rdR hK S5, rdG hK S5, hF]
    by_cases hc : N < TOP ∧ D < TOP
    · rw [if_pos hc]; exact g_if_pos (Or.inr rfl)
    · rw [if_neg hc]; exact g_if_pos (Or.inl rfl)
  by_cases hb : y.1 16 = y.1 r
  · rw [if_pos (by rw [hb]), ← fin]
    unfold bx
    rw [if_pos hb]
    rfl
  · rw [if_neg (fun z => hb ((nI_bx b1 b2).mp z)), ← fin]
    unfold bx
    rw [if_neg hb]
    rfl
end RL
