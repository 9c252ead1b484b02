/-! the reference is made; the class's textAt -/
def z0 : g_Z := (0, fun _ => 0, fun _ => 0, 0, fun _ => 0, 0)
def Q0 (x n : Nat) : Nat → Nat := fun i => if i = 0 then x else n + (i - 1)
theorem Q0_ok {x n : Nat} (hx : x < n) : kM (Q0 x n) := by
  intro i j hi hj h
  have h : (if i = 0 then x else n + (i - 1)) = (if j = 0 then x else n + (j - 1)) := h
  by_cases h1 : i = 0
  · by_cases h2 : j = 0
    · omega
    · rw [if_pos h1, if_neg h2] at h; omega
  · by_cases h2 : j = 0
    · rw [if_neg h1, if_pos h2] at h; omega
    · rw [if_neg h1, if_neg h2] at h; omega
theorem i_loop {Q : Nat → Nat} {σ0 : g_S} {z : g_Z} (hQ : kM Q) : ∀ (n k : Nat) (σ : g_S) (v : Nat → Nat), 16 - k < n → k ≤ 16 → MSt Q σ0 σ z v → ∃ σ' v', LX8_init_49 n σ (Q 0) (nI k) = some σ' ∧ MSt Q σ0 σ' z v' ∧ v' 42 = 1 ∧ (∀ p, k ≤ p → p < 16 → v' (2 * p) = 0 ∧ v' (2 * p + 1) = 1) ∧ ∀ i, i < 2 * k → v' i = v i := by
  intro n
  induction n with
  | zero => intro k σ v h; omega
  | succ n ih =>
    intro k σ v hn hk M
    rw [LX8_init_49, show (16 : Int32) = nI 16 from rfl, show (42 : Int32) = nI 42 from rfl]
    rcases Nat.lt_or_ge k 16 with h | h
    · obtain ⟨σ1, e1, M1⟩ := v_small hQ M (x := 2 * k) (n := 0) (by omega) (by decide)
      obtain ⟨σ2, e2, M2⟩ := v_small hQ M1 (x := 2 * k + 1) (n := 1) (by omega) (by decide)
      obtain ⟨σ3, v3, e3, M3, g1, g2, g3⟩ := ih (k + 1) σ2 _ (by omega) (by omega) M2
      refine ⟨σ3, v3, ?_, M3, g1, fun p h1 h2 => ?_, fun i hi => by rw [g3 i (by omega), va_up_ne _ _ (by omega), va_up_ne _ _ (by omega)]⟩
      · have e0 : fX8_small σ (Q 0) (nI (2 * k)) 0 = some σ1 := e1
        have e0' : fX8_small σ1 (Q 0) (nI (2 * k + 1)) 1 = some σ2 := e2
        rw [if_neg (nI_ge h (by omega)), two_nI, nI_1]
        simp only [rS hQ M, e0, Option.bind_some, rS hQ M1, e0', g_let]
        rw [nI_1]
        exact e3
      · rcases Nat.lt_or_ge k p with q | q
        · exact g2 p (by omega) h2
        · have : p = k := by omega
          subst this
          rw [g3 _ (by omega), g3 _ (by omega)]
          exact ⟨by rw [va_up_ne _ _ (by omega), va_up_self], va_up_self _ _ _⟩
    · obtain ⟨σ1, e1, M1⟩ := v_small hQ M (x := 42) (n := 1) (by omega) (by decide)
      have e0 : fX8_small σ (Q 0) (nI 42) 1 = some σ1 := e1
      refine ⟨σ1, _, ?_, M1, va_up_self _ _ _, fun p h1 h2 => by omega, fun i hi => va_up_ne _ _ (by omega)⟩
      rw [if_pos (nI_le h (by omega))]
      simp only [rS hQ M, e0, Option.bind_some]
theorem i_model {σ : g_S} {x n : Nat} (h2 : σ.2 = n) (hx : x < n) (hc : σ.1 x = some (.inr (8, [.int 0, .null, .null, .null, .null, .int 0, .null, .int 0]))) : ∃ σ', fX8_init σ x = some σ' ∧ σ'.2 = n + 5 ∧ (∀ q, q < n → q ≠ x → σ'.1 q = σ.1 q) ∧ kM (Q0 x n) ∧ MS (Q0 x n) σ' σ' m0 := by
  subst h2
  have hQ := Q0_ok hx
  have step : ∀ (τ : g_S) (e : g_E) (k : Nat) (fs : List Value), x < τ.2 → τ.1 x = some (.inr (8, fs)) → k < fs.length → ∃ τ', g_p (g_mk τ e) 8 x k (.ref τ.2) = some τ' ∧ τ'.2 = τ.2 + 1 ∧ (∀ q, q < τ.2 → q ≠ x → τ'.1 q = τ.1 q) ∧ τ'.1 τ.2 = some e ∧ τ'.1 x = some (.inr (8, fs.set k (.ref τ.2))) := by
    intro τ e k fs h1 h3 h4
    refine ⟨_, g_p_of (g_cell (g_mk_q _ _ (by omega)) h3) h4 _, rfl, fun q q1 q2 => by rw [g_up_n _ _ q2, g_mk_q _ _ (by omega)], by rw [g_up_n _ _ (by omega), g_mk_n], g_up_s _ _ _⟩
  obtain ⟨τ1, e1, a1, a2, a3, a4⟩ := step σ (.inl (0, 11616, .inl (fun _ => 0))) 1 _ hx hc (Nat.le_of_ble_eq_true rfl)
  obtain ⟨τ2, e2, b1, b2, b3, b4⟩ := step τ1 (.inl (0, 44, .inl (fun _ => 0))) 2 _ (by omega) a4 (Nat.le_of_ble_eq_true rfl)
  obtain ⟨τ3, e3, c1, c2, c3, c4⟩ := step τ2 (.inl (5, 16, .inl (fun _ => 0))) 3 _ (by omega) b4 (Nat.le_of_ble_eq_true rfl)
  obtain ⟨τ4, e4, d1, d2, d3, d4⟩ := step τ3 (.inl (0, 1400, .inl (fun _ => 0))) 4 _ (by omega) c4 (Nat.le_of_ble_eq_true rfl)
  obtain ⟨τ5, e5, f1, f2, f3, f4⟩ := step τ4 (.inl (0, 4200, .inl (fun _ => 0))) 6 _ (by omega) d4 (Nat.le_of_ble_eq_true rfl)
  have k4 : ∀ q, q < σ.2 + 4 → q ≠ x → τ5.1 q = τ4.1 q := fun q q1 q2 => f2 q (by omega) q2
  have k3 : ∀ q, q < σ.2 + 3 → q ≠ x → τ5.1 q = τ3.1 q := fun q q1 q2 => by rw [k4 q (by omega) q2, d2 q (by omega) q2]
  have k2 : ∀ q, q < σ.2 + 2 → q ≠ x → τ5.1 q = τ2.1 q := fun q q1 q2 => by rw [k3 q (by omega) q2, c2 q (by omega) q2]
  have k1 : ∀ q, q < σ.2 + 1 → q ≠ x → τ5.1 q = τ1.1 q := fun q q1 q2 => by rw [k2 q (by omega) q2, b2 q (by omega) q2]
  have k0 : ∀ q, q < σ.2 → q ≠ x → τ5.1 q = σ.1 q := fun q q1 q2 => by rw [k1 q (by omega) q2, a2 q (by omega) q2]
  rw [a1] at b3 b4 e2
  rw [b1, a1] at c3 c4 e3
  rw [c1, b1, a1] at d3 d4 e4
  rw [d1, c1, b1, a1] at f3 f4 e5
  have M5 : MSt (Q0 x σ.2) τ5 τ5 z0 (fun _ => 0) := by
    refine ⟨fun _ => 0, fun _ _ => 0, ?_, fun i hi => ⟨Nat.zero_le _, fun k => by show (0 : Nat) < 65536; omega, fun _ => ⟨Or.inl rfl, rfl⟩⟩⟩
    apply Prod.ext
    · funext q
      unfold md
      simp only
      cases hq : ix (Q0 x σ.2) q 6 with
      | none => simp only
      | some i =>
        obtain ⟨u1, u2⟩ := ix_eq hq
        rw [← u2]
        have hcs : i = 0 ∨ i = 1 ∨ i = 2 ∨ i = 3 ∨ i = 4 ∨ i = 5 := by omega
        rcases hcs with rfl | rfl | rfl | rfl | rfl | rfl
        · exact f4
        · exact g_cell (k1 σ.2 (by omega) (by omega)) a3
        · exact g_cell (k2 (σ.2 + 1) (by omega) (by omega)) b3
        · exact g_cell (k3 (σ.2 + 2) (by omega) (by omega)) c3
        · exact g_cell (k4 (σ.2 + 3) (by omega) (by omega)) d3
        · exact f3
    · rfl
  obtain ⟨σ6, v6, e6, M6, g1, g2, g3⟩ := i_loop hQ g_fuel 0 τ5 _ (fuel_ge (by omega)) (by omega) M5
  have V6 : MV z0 v6 m0 := by
    refine ⟨fun p hp => ⟨?_, Nat.lt_of_lt_of_le Nat.one_pos (Nat.le_of_lt TOP_1), Nat.one_pos, TOP_1, Nat.gcd_one_right 0, by show 0 ≤ 1; omega, fun _ => rfl⟩, ⟨rfl, by show 0 ≤ 1400; omega, fun k hk => absurd hk (Nat.not_lt_zero _)⟩, ⟨rfl, by show 0 ≤ 4098; omega, fun k hk => absurd hk (Nat.not_lt_zero _)⟩, g1⟩
    obtain ⟨w1, w2⟩ := g2 p (by omega) hp
    show ((0 : Nat), (1 : Nat), (0 : Nat)) = (v6 (2 * p), v6 (2 * p + 1), 0)
    rw [w1, w2]
  have C6 : MS (Q0 x σ.2) τ5 σ6 m0 := ⟨z0, v6, M6, V6⟩
  obtain ⟨y1, y2⟩ := MS_frame C6
  refine ⟨σ6, ?_, by rw [y1]; omega, fun q q1 q2 => ?_, hQ, MS_move C6 (fun _ _ => rfl)⟩
  · unfold fX8_init
    simp only [g_let]
    rw [e1, Option.bind_some, a1, e2, Option.bind_some, b1, a1, e3, Option.bind_some, c1, b1, a1, e4, Option.bind_some, d1, c1, b1, a1, e5, Option.bind_some]
    exact e6
  · have kq : kQ (Q0 x σ.2) q := fun i hi e => by
      have e : (if i = 0 then x else σ.2 + (i - 1)) = q := e
      split at e <;> omega
    rw [y2 q kq, k0 q q1 q2]
theorem c_textAt {K : g_Q9} {σb σ : g_S} {m : g_M} (hK : kOK K) (C : CS K σb σ m) (x : Int32) : fX7_textAt σ (K.2.2.1 0) x = some (if ¬ x < 0 ∧ x < nI m.2.2.1 then some (nI (m.2.2.2 x.toNatClampNeg)) else none) := by
  obtain ⟨y, v, S, V⟩ := C
  obtain ⟨a1, a2, t1, t2, t3⟩ := V
  unfold fX7_textAt
  by_cases h1 : x < 0
  · rw [if_pos h1, if_neg (fun w => w.1 h1)]
  · rw [if_neg h1]
    simp only [rdD hK S, rdX hK S, Option.bind_some]
    rw [t1]
    by_cases h3 : x < nI m.2.2.1
    · rw [if_pos h3, if_pos ⟨h1, h3⟩]
      obtain ⟨k, k1, rfl⟩ := nI_of h1
      have k2 : k < m.2.2.1 := by
        rcases Nat.lt_or_ge k m.2.2.1 with q | q
        · exact q
        · exact absurd h3 (nI_nlt q k1)
      rw [nI_clamp k1]
      have e1 := t_getX hK S (k := k) (by omega)
      rw [e1, Option.bind_some, (t3 k k2).1]
    · rw [if_neg h3, if_neg (fun w => h3 w.2)]
