/-! the constructors: division, divisor, reckoner, tape, text -/
def nz (σ : g_S) (a cap : Nat) : Prop := σ.1 a = some (cN (a + 1)) ∧ σ.1 (a + 1) = some (aN cap)
theorem nz.kp {σ σ' : g_S} {a cap : Nat} (h : nz σ a cap) (h1 : σ'.1 a = σ.1 a) (h2 : σ'.1 (a + 1) = σ.1 (a + 1)) : nz σ' a cap := ⟨by rw [h1]; exact h.1, by rw [h2]; exact h.2⟩
theorem aF.kp {σ σ' : g_S} {x n cap : Nat} (h : aF σ x n cap) (h1 : ∀ q, q = x ∨ (n ≤ q ∧ q < n + 4) → σ'.1 q = σ.1 q) : aF σ' x n cap := ⟨by rw [h1 _ (by omega)]; exact h.1, by rw [h1 _ (by omega)]; exact h.2.1, by rw [h1 _ (by omega)]; exact h.2.2.1, by rw [h1 _ (by omega)]; exact h.2.2.2.1, by rw [h1 _ (by omega)]; exact h.2.2.2.2⟩
section NX
variable {σ : g_S} {n x0 : Nat}
/-- i_natp, shorter -/
theorem i_np {ci k cap : Nat} {fs : List Value} (h2 : σ.2 = n) (hx : x0 < n) (hc : σ.1 x0 = some (.inr (ci, fs))) (hk : k < fs.length) (h67 : 67 ≤ cap) (h136 : cap ≤ 136) : ∃ σ', σ'.2 = n + 2 ∧ (∀ q, q < n → q ≠ x0 → σ'.1 q = σ.1 q) ∧ σ'.1 x0 = some (.inr (ci, fs.set k (.ref n))) ∧ nz σ' n cap ∧
    ∀ (β : Type) (Kf : g_S → Option β), (g_let σ.2 fun a2 => g_let (g_mk σ (.inr (3, [.null, .int 0]))) fun σ1 => (fX3_init σ1 a2 (nI cap)).bind fun r3 => (g_p r3 ci x0 k (.ref a2)).bind fun σ4 => Kf σ4) = Kf σ' := by
  obtain ⟨σ', a1, a2, a3, a4, a5, a6⟩ := i_natp h2 hx hc hk h67 h136
  exact ⟨σ', a1, a2, a3, ⟨a4, a5⟩, a6⟩
theorem i_div (h2 : σ.2 = n) (hx : x0 < n) (hc : σ.1 x0 = some (.inr (1, [.null, .null, .null]))) : ∃ σ', fX1_init σ x0 = some σ' ∧ σ'.2 = n + 6 ∧ (∀ q, q < n → q ≠ x0 → σ'.1 q = σ.1 q) ∧ σ'.1 x0 = some (.inr (1, [.ref n, .ref (n + 2), .ref (n + 4)])) ∧ nz σ' n 136 ∧ nz σ' (n + 2) 136 ∧ nz σ' (n + 4) 136 := by
  obtain ⟨σ1, a1, a2, a3, a4, e1⟩ := i_np h2 hx hc (k := 0) (cap := 136) (Nat.le_of_ble_eq_true rfl) (by decide) (by decide)
  obtain ⟨σ2, b1, b2, b3, b4, e2⟩ := i_np a1 (by omega) a3 (k := 1) (cap := 136) (Nat.le_of_ble_eq_true rfl) (by decide) (by decide)
  obtain ⟨σ3, c1, c2, c3, c4, e3⟩ := i_np b1 (by omega) b3 (k := 2) (cap := 136) (Nat.le_of_ble_eq_true rfl) (by decide) (by decide)
  refine ⟨σ3, ?_, by omega, fun q q1 q2 => ?_, c3, ?_, ?_, c4⟩
  · unfold fX1_init
    rw [show (136 : Int32) = nI 136 from rfl, e1, e2, e3]
  · rw [c2 q (by omega) q2, b2 q (by omega) q2, a2 q q1 q2]
  · exact a4.kp (by rw [c2 _ (by omega) (by omega), b2 _ (by omega) (by omega)]) (by rw [c2 _ (by omega) (by omega), b2 _ (by omega) (by omega)])
  · exact b4.kp (by rw [c2 _ (by omega) (by omega)]) (by rw [c2 _ (by omega) (by omega)])
theorem i_cd (h2 : σ.2 = n) (hx : x0 < n) (hc : σ.1 x0 = some (.inr (0, [.null, .null, .null, .long 0, .long 0, .long 0, .long 0]))) : ∃ σ', fX0_init σ x0 = some σ' ∧ σ'.2 = n + 11 ∧ (∀ q, q < n → q ≠ x0 → σ'.1 q = σ.1 q) ∧ σ'.1 x0 = some (.inr (0, [.ref n, .ref (n + 7), .ref (n + 9), .long 0, .long 0, .long 0, .long 0])) ∧ σ'.1 n = some (.inr (1, [.ref (n + 1), .ref (n + 3), .ref (n + 5)])) ∧ nz σ' (n + 1) 136 ∧ nz σ' (n + 3) 136 ∧ nz σ' (n + 5) 136 ∧ nz σ' (n + 7) 136 ∧ nz σ' (n + 9) 136 := by
  subst h2
  obtain ⟨σ1, e1, a1, a2, a3, a4, a5, a6⟩ := i_div (σ := g_mk σ (.inr (1, [.null, .null, .null]))) (n := σ.2 + 1) (x0 := σ.2) rfl (by omega) (g_mk_n _ _)
  have hx1 : σ1.1 x0 = some (.inr (0, [.null, .null, .null, .long 0, .long 0, .long 0, .long 0])) := by rw [a2 _ (by omega) (by omega), g_mk_q _ _ (by omega)]; exact hc
  obtain ⟨τ, et⟩ : ∃ τ, τ = g_up σ1 x0 (.inr (0, [.ref σ.2, .null, .null, .long 0, .long 0, .long 0, .long 0])) := ⟨_, rfl⟩
  have p1 : g_p σ1 0 x0 0 (.ref σ.2) = some τ := by rw [et]; exact g_p_of hx1 (by decide) _
  have t2 : τ.2 = σ.2 + 7 := by rw [et]; exact a1
  have tq : ∀ q, q ≠ x0 → τ.1 q = σ1.1 q := fun q hq => by rw [et, g_up_n _ _ hq]
  have tx : τ.1 x0 = some (.inr (0, [.ref σ.2, .null, .null, .long 0, .long 0, .long 0, .long 0])) := by rw [et]; exact g_up_s _ _ _
  obtain ⟨σ2, b1, b2, b3, b4, e2⟩ := i_np t2 (by omega) tx (k := 1) (cap := 136) (Nat.le_of_ble_eq_true rfl) (by decide) (by decide)
  obtain ⟨σ3, c1, c2, c3, c4, e3⟩ := i_np b1 (by omega) b3 (k := 2) (cap := 136) (Nat.le_of_ble_eq_true rfl) (by decide) (by decide)
  have kp : ∀ q, q < σ.2 + 7 → q ≠ x0 → σ3.1 q = σ1.1 q := fun q q1 q2 => by rw [c2 q (by omega) q2, b2 q q1 q2, tq q q2]
  refine ⟨σ3, ?_, by omega, fun q q1 q2 => ?_, c3, ?_, a4.kp (kp _ (by omega) (by omega)) (kp _ (by omega) (by omega)), a5.kp (kp _ (by omega) (by omega)) (kp _ (by omega) (by omega)), a6.kp (kp _ (by omega) (by omega)) (kp _ (by omega) (by omega)), b4.kp (c2 _ (by omega) (by omega)) (c2 _ (by omega) (by omega)), c4⟩
  · unfold fX0_init
    rw [show (136 : Int32) = nI 136 from rfl]
    simp only [g_let] at e2 e3 ⊢
    rw [e1, Option.bind_some, p1, Option.bind_some, e2, e3]
  · rw [kp q (by omega) q2, a2 q (by omega) (by omega), g_mk_q _ _ (by omega)]
  · rw [kp _ (by omega) (by omega), a3]
theorem i_tape (h2 : σ.2 = n) (hx : x0 < n) (hc : σ.1 x0 = some (.inr (5, [.null, .int 0, .int 0]))) : ∃ σ', fX5_init σ x0 = some σ' ∧ σ'.2 = n + 1 ∧ (∀ q, q < n → q ≠ x0 → σ'.1 q = σ.1 q) ∧ σ'.1 x0 = some (.inr (5, [.ref n, .int 0, .int 0])) ∧ σ'.1 n = some (.inl (1, 1400, .inl (fun _ => 0))) := by
  subst h2
  have e2 := g_p_of (σ := g_mk σ (.inl (1, 1400, .inl (fun _ => 0)))) (ci := 5) (a := x0) (k := 0) (by rw [g_mk_q _ _ (by omega)]; exact hc) (Nat.le_of_ble_eq_true rfl) (.ref σ.2)
  refine ⟨g_up (g_mk σ (.inl (1, 1400, .inl (fun _ => 0)))) x0 (.inr (5, [.ref σ.2, .int 0, .int 0])), ?_, rfl, fun q q1 q2 => by rw [g_up_n _ _ q2, g_mk_q _ _ (by omega)], g_up_s _ _ _, by rw [g_up_n _ _ (by omega), g_mk_n]⟩
  unfold fX5_init
  simp only [g_let]
  rw [e2]
  rfl
theorem i_text (h2 : σ.2 = n) (hx : x0 < n) (hc : σ.1 x0 = some (.inr (6, [.null, .int 0, .null]))) : ∃ σ', fX6_init σ x0 = some σ' ∧ σ'.2 = n + 3 ∧ (∀ q, q < n → q ≠ x0 → σ'.1 q = σ.1 q) ∧ σ'.1 x0 = some (.inr (6, [.ref n, .int 0, .ref (n + 1)])) ∧ σ'.1 n = some (.inl (2, 4098, .inl (fun _ => 0))) ∧ nz σ' (n + 1) 67 := by
  subst h2
  obtain ⟨τ, et⟩ : ∃ τ, τ = g_up (g_mk σ (.inl (2, 4098, .inl (fun _ => 0)))) x0 (.inr (6, [.ref σ.2, .int 0, .null])) := ⟨_, rfl⟩
  have e2 : g_p (g_mk σ (.inl (2, 4098, .inl (fun _ => 0)))) 6 x0 0 (.ref σ.2) = some τ := by
    have hx9 : (g_mk σ (.inl (2, 4098, .inl (fun _ => 0)))).1 x0 = some (.inr (6, [.null, .int 0, .null])) := by rw [g_mk_q _ _ (by omega)]; exact hc
    rw [et]
    exact g_p_of hx9 (Nat.le_of_ble_eq_true rfl) (.ref σ.2)
  have t2 : τ.2 = σ.2 + 1 := by rw [et]; rfl
  have tx : τ.1 x0 = some (.inr (6, [.ref σ.2, .int 0, .null])) := by rw [et]; exact g_up_s _ _ _
  obtain ⟨σ2, b1, b2, b3, b4, e3⟩ := i_np t2 (by omega) tx (k := 2) (cap := 67) (Nat.le_of_ble_eq_true rfl) (by decide) (by decide)
  refine ⟨σ2, ?_, by omega, fun q q1 q2 => ?_, b3, ?_, b4⟩
  · unfold fX6_init
    rw [show (67 : Int32) = nI 67 from rfl]
    simp only [g_let] at e3 ⊢
    rw [e2, Option.bind_some, e3]
  · rw [b2 q (by omega) q2, et, g_up_n _ _ q2, g_mk_q _ _ (by omega)]
  · rw [b2 _ (by omega) (by omega), et, g_up_n _ _ (by omega), g_mk_n]
theorem i_reck (h2 : σ.2 = n) (hx : x0 < n) (hc : σ.1 x0 = some (.inr (4, [.null, .null, .null, .null, .null, .null, .null, .null]))) : ∃ σ', fX4_init σ x0 = some σ' ∧ σ'.2 = n + 27 ∧ (∀ q, q < n → q ≠ x0 → σ'.1 q = σ.1 q) ∧ σ'.1 x0 = some (.inr (4, [.ref n, .ref (n + 5), .ref (n + 6), .ref (n + 17), .ref (n + 19), .ref (n + 21), .ref (n + 23), .ref (n + 25)])) ∧ aF σ' n (n + 1) 136 ∧
    σ'.1 (n + 5) = some (.inr (0, [.ref (n + 6), .ref (n + 13), .ref (n + 15), .long 0, .long 0, .long 0, .long 0])) ∧ σ'.1 (n + 6) = some (.inr (1, [.ref (n + 7), .ref (n + 9), .ref (n + 11)])) ∧ nz σ' (n + 7) 136 ∧ nz σ' (n + 9) 136 ∧ nz σ' (n + 11) 136 ∧ nz σ' (n + 13) 136 ∧ nz σ' (n + 15) 136 ∧ nz σ' (n + 17) 67 ∧ nz σ' (n + 19) 67 ∧ nz σ' (n + 21) 67 ∧ nz σ' (n + 23) 136 ∧ nz σ' (n + 25) 136 := by
  subst h2
  obtain ⟨σ1, e1, a1, a2, a3⟩ := i_frac (σ := g_mk σ (.inr (2, [.null, .null, .int 0]))) (n := σ.2 + 1) (x0 := σ.2) (cap := 136) rfl (by omega) (g_mk_n _ _) (by decide) (by decide)
  have hx1 : σ1.1 x0 = some (.inr (4, [.null, .null, .null, .null, .null, .null, .null, .null])) := by rw [a2 _ (by omega) (by omega), g_mk_q _ _ (by omega)]; exact hc
  obtain ⟨τ1, et1⟩ : ∃ τ, τ = g_up σ1 x0 (.inr (4, [.ref σ.2, .null, .null, .null, .null, .null, .null, .null])) := ⟨_, rfl⟩
  have p1 : g_p σ1 4 x0 0 (.ref σ.2) = some τ1 := by rw [et1]; exact g_p_of hx1 (by decide) _
  have t1 : τ1.2 = σ.2 + 5 := by rw [et1]; exact a1
  have tq1 : ∀ q, q ≠ x0 → τ1.1 q = σ1.1 q := fun q hq => by rw [et1, g_up_n _ _ hq]
  have tx1 : τ1.1 x0 = some (.inr (4, [.ref σ.2, .null, .null, .null, .null, .null, .null, .null])) := by rw [et1]; exact g_up_s _ _ _
  obtain ⟨σ2, e2, b1, b2, b3, b4, b5, b6, b7, b8, b9⟩ := i_cd (σ := g_mk τ1 (.inr (0, [.null, .null, .null, .long 0, .long 0, .long 0, .long 0]))) (n := σ.2 + 6) (x0 := σ.2 + 5) (by show τ1.2 + 1 = _; omega) (by omega) (by rw [← t1]; exact g_mk_n _ _)
  have k2 : ∀ q, q < σ.2 + 5 → q ≠ x0 → σ2.1 q = σ1.1 q := fun q q1 q2 => by rw [b2 q (by omega) (by omega), g_mk_q _ _ (by omega), tq1 q q2]
  have hx2 : σ2.1 x0 = some (.inr (4, [.ref σ.2, .null, .null, .null, .null, .null, .null, .null])) := by rw [b2 _ (by omega) (by omega), g_mk_q _ _ (by omega)]; exact tx1
  obtain ⟨τ2, et2⟩ : ∃ τ, τ = g_up σ2 x0 (.inr (4, [.ref σ.2, .ref (σ.2 + 5), .null, .null, .null, .null, .null, .null])) := ⟨_, rfl⟩
  have p2 : g_p σ2 4 x0 1 (.ref (σ.2 + 5)) = some τ2 := by rw [et2]; exact g_p_of hx2 (Nat.le_of_ble_eq_true rfl) _
  have tx2 : τ2.1 x0 = some (.inr (4, [.ref σ.2, .ref (σ.2 + 5), .null, .null, .null, .null, .null, .null])) := by rw [et2]; exact g_up_s _ _ _
  have tq2 : ∀ q, q ≠ x0 → τ2.1 q = σ2.1 q := fun q hq => by rw [et2, g_up_n _ _ hq]
  have f1 : g_fr τ2 4 x0 1 = some (σ.2 + 5) := g_fr_of tx2 rfl
  have f2 : g_fr τ2 0 (σ.2 + 5) 0 = some (σ.2 + 6) := g_fr_of (by rw [tq2 _ (by omega)]; exact b3) rfl
  obtain ⟨τ3, et3⟩ : ∃ τ, τ = g_up τ2 x0 (.inr (4, [.ref σ.2, .ref (σ.2 + 5), .ref (σ.2 + 6), .null, .null, .null, .null, .null])) := ⟨_, rfl⟩
  have p3 : g_p τ2 4 x0 2 (.ref (σ.2 + 6)) = some τ3 := by rw [et3]; exact g_p_of tx2 (Nat.le_of_ble_eq_true rfl) _
  have tx3 : τ3.1 x0 = some (.inr (4, [.ref σ.2, .ref (σ.2 + 5), .ref (σ.2 + 6), .null, .null, .null, .null, .null])) := by rw [et3]; exact g_up_s _ _ _
  have tq3 : ∀ q, q ≠ x0 → τ3.1 q = σ2.1 q := fun q hq => by rw [et3, g_up_n _ _ hq, tq2 q hq]
  have t3 : τ3.2 = σ.2 + 17 := by rw [et3, et2]; show σ2.2 = _; omega
  obtain ⟨σ4, c1, c2, c3, c4, e4⟩ := i_np t3 (by omega) tx3 (k := 3) (cap := 67) (Nat.le_of_ble_eq_true rfl) (by decide) (by decide)
  obtain ⟨σ5, d1, d2, d3, d4, e5⟩ := i_np c1 (by omega) c3 (k := 4) (cap := 67) (Nat.le_of_ble_eq_true rfl) (by decide) (by decide)
  obtain ⟨σ6, f1', f2', f3, f4, e6⟩ := i_np d1 (by omega) d3 (k := 5) (cap := 67) (Nat.le_of_ble_eq_true rfl) (by decide) (by decide)
  obtain ⟨σ7, g1, g2, g3, g4, e7⟩ := i_np f1' (by omega) f3 (k := 6) (cap := 136) (Nat.le_of_ble_eq_true rfl) (by decide) (by decide)
  obtain ⟨σ8, h1, h2, h3, h4, e8⟩ := i_np g1 (by omega) g3 (k := 7) (cap := 136) (Nat.le_of_ble_eq_true rfl) (by decide) (by decide)
  have k7 : ∀ q, q < σ.2 + 17 + 2 + 2 + 2 + 2 → q ≠ x0 → σ8.1 q = σ7.1 q := fun q q1 q2 => h2 q q1 q2
  have k6 : ∀ q, q < σ.2 + 17 + 2 + 2 + 2 → q ≠ x0 → σ8.1 q = σ6.1 q := fun q q1 q2 => by rw [k7 q (by omega) q2, g2 q q1 q2]
  have k5 : ∀ q, q < σ.2 + 17 + 2 + 2 → q ≠ x0 → σ8.1 q = σ5.1 q := fun q q1 q2 => by rw [k6 q (by omega) q2, f2' q q1 q2]
  have k4 : ∀ q, q < σ.2 + 17 + 2 → q ≠ x0 → σ8.1 q = σ4.1 q := fun q q1 q2 => by rw [k5 q (by omega) q2, d2 q q1 q2]
  have k3 : ∀ q, q < σ.2 + 17 → q ≠ x0 → σ8.1 q = σ2.1 q := fun q q1 q2 => by rw [k4 q (by omega) q2, c2 q q1 q2, tq3 q q2]
  have k1 : ∀ q, q < σ.2 + 5 → q ≠ x0 → σ8.1 q = σ1.1 q := fun q q1 q2 => by rw [k3 q (by omega) q2, k2 q q1 q2]
  refine ⟨σ8, ?_, by omega, fun q q1 q2 => ?_, h3, a3.kp (fun q hq => k1 q (by omega) (by omega)), ?_, ?_, b5.kp (k3 _ (by omega) (by omega)) (k3 _ (by omega) (by omega)), b6.kp (k3 _ (by omega) (by omega)) (k3 _ (by omega) (by omega)), b7.kp (k3 _ (by omega) (by omega)) (k3 _ (by omega) (by omega)), b8.kp (k3 _ (by omega) (by omega)) (k3 _ (by omega) (by omega)), b9.kp (k3 _ (by omega) (by omega)) (k3 _ (by omega) (by omega)), c4.kp (k4 _ (by omega) (by omega)) (k4 _ (by omega) (by omega)), d4.kp (k5 _ (by omega) (by omega)) (k5 _ (by omega) (by omega)), f4.kp (k6 _ (by omega) (by omega)) (k6 _ (by omega) (by omega)), g4.kp (k7 _ (by omega) (by omega)) (k7 _ (by omega) (by omega)), h4⟩
  · unfold fX4_init
    rw [show (136 : Int32) = nI 136 from rfl, show (67 : Int32) = nI 67 from rfl]
    simp only [g_let] at e4 e5 e6 e7 e8 ⊢
    rw [e1, Option.bind_some, p1, Option.bind_some, t1, e2, Option.bind_some, p2, Option.bind_some, f1, Option.bind_some, f2, Option.bind_some, p3, Option.bind_some, e4, e5, e6, e7, e8]
  · rw [k1 q (by omega) q2, a2 q (by omega) (by omega), g_mk_q _ _ (by omega)]
  · rw [k3 _ (by omega) (by omega), b3]
  · rw [k3 _ (by omega) (by omega), b4]
end NX
