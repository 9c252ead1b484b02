/-! the desk is made -/
theorem dk_build {K : g_Q9} {σ : g_S} {y : g_Y} {a b c d : Int} {s : Nat → Nat} {lf : Nat → Nat → Nat} (h1 : ∀ i, i < 45 → σ.1 (K.1.1 i) = some (.inr (3, [.ref (K.1.2.1 i), .int (nI (s i))]))) (h2 : ∀ i, i < 45 → σ.1 (K.1.2.1 i) = some (.inl (0, K.1.2.2 i, .inl (fun k => nI (lf i k))))) (h3 : σ.1 (K.2.2.1 2) = some (CDE K a b c d))
    (h4 : ∀ p, p < 17 → σ.1 (K.2.1 p) = some (.inr (2, [.ref (K.1.1 (2 * p)), .ref (K.1.1 (2 * p + 1)), .int (nI (y.1 p))]))) (h5 : ∀ i, i < 9 → i ≠ 2 → σ.1 (K.2.2.1 i) = some (oE K y.2.1 y.2.2 i)) : σ = dk K σ y a b c d s lf := by
  apply Prod.ext
  · funext q
    unfold dk mkN
    simp only
    cases e1 : ix K.1.1 q 45 with
    | some i =>
      obtain ⟨u1, u2⟩ := ix_eq e1
      rw [← u2]
      exact h1 i u1
    | none =>
      cases e2 : ix K.1.2.1 q 45 with
      | some i =>
        obtain ⟨u1, u2⟩ := ix_eq e2
        rw [← u2]
        exact h2 i u1
      | none =>
        simp only
        unfold cdS
        by_cases e3 : q = K.2.2.1 2
        · rw [e3, g_up_s]
          exact h3
        · rw [g_up_n _ _ e3]
          unfold mkF
          simp only
          cases e4 : ix K.2.1 q 17 with
          | some p =>
            obtain ⟨u1, u2⟩ := ix_eq e4
            rw [← u2]
            exact h4 p u1
          | none =>
            unfold mkO
            simp only
            cases e5 : ix K.2.2.1 q 9 with
            | some i =>
              obtain ⟨u1, u2⟩ := ix_eq e5
              rw [← u2]
              exact h5 i u1 (fun w => e3 (by rw [← u2, w]))
            | none => simp only
  · rfl
-- where each lies, behind the desk's first address
def lo (i : Nat) : Nat := if i < 32 then 36 + 5 * (i / 2) + 2 * (i % 2) else if i < 34 then 3 + 2 * (i - 32) else if i < 37 then 9 + 2 * (i - 34) else if i < 39 then 15 + 2 * (i - 37) else if i < 44 then 19 + 2 * (i - 39) else 33
def lc (i : Nat) : Nat := if i < 32 then 67 else if i < 39 then 136 else if i < 42 then 67 else if i < 44 then 136 else 67
def fo (p : Nat) : Nat := if p < 16 then 35 + 5 * p else 2
def oo : Nat → Nat
  | 1 => 1
  | 2 => 7
  | 3 => 8
  | 4 => 29
  | 5 => 30
  | 6 => 31
  | 7 => 32
  | _ => 0
def K0 (x n : Nat) (f : Nat → Option Nat) : g_Q9 := ((fun i => n + lo i, fun i => n + lo i + 1, lc), fun p => n + fo p, fun i => if i = 0 then x else n + oo i, f)
theorem lo_inj : ∀ i, i < 45 → ∀ j, j < 45 → lo i = lo j → i = j := by decide +kernel
theorem lo_row : ∀ i, i < 45 → ∀ j, j < 45 → lo i ≠ lo j + 1 := by decide +kernel
theorem lc_ok : ∀ i, i < 45 → 67 ≤ lc i ∧ lc i < 1000 ∧ ((32 ≤ i ∧ i ≤ 38) ∨ i = 42 ∨ i = 43 → 136 ≤ lc i) := by decide +kernel
theorem fo_inj : ∀ p, p < 17 → ∀ q, q < 17 → fo p = fo q → p = q := by decide +kernel
theorem oo_inj : ∀ i, i < 9 → ∀ j, j < 9 → i ≠ 0 → j ≠ 0 → oo i = oo j → i = j := by decide +kernel
theorem of_ne : ∀ i, i < 9 → ∀ p, p < 17 → i ≠ 0 → oo i ≠ fo p := by decide +kernel
theorem ol_ne : ∀ i, i < 9 → ∀ j, j < 45 → i ≠ 0 → lo j ≠ oo i ∧ lo j + 1 ≠ oo i := by decide +kernel
theorem fl_ne : ∀ p, p < 17 → ∀ j, j < 45 → lo j ≠ fo p ∧ lo j + 1 ≠ fo p := by decide +kernel
theorem lo_lt : ∀ i, i < 45 → lo i < 115 - 1 := by decide +kernel
theorem fo_lt : ∀ p, p < 17 → fo p < 115 := by decide +kernel
theorem oo_lt : ∀ i, i < 9 → oo i < 115 := by decide +kernel
theorem K0_ok {x n : Nat} {f : Nat → Option Nat} (hx : x < n) (hf : ∀ k, k < 16 → f k = some (n + fo k)) : kOK (K0 x n f) := by
  refine ⟨⟨fun i j hi hj h => lo_inj i hi j hj (by have h : n + lo i = n + lo j := h; omega), fun i j hi hj h => lo_inj i hi j hj (by have h : n + lo i + 1 = n + lo j + 1 := h; omega), fun i j hi hj h => lo_row i hi j hj (by have h : n + lo i = n + lo j + 1 := h; omega), fun i hi => ⟨(lc_ok i hi).1, (lc_ok i hi).2.1⟩⟩, fun i hi => (lc_ok i (by omega)).2.2 hi, ?_, fun p q hp hq h => fo_inj p hp q hq (by have h : n + fo p = n + fo q := h; omega), ?_, ?_, ?_, hf⟩
  · intro i j hi hj h
    have h : (if i = 0 then x else n + oo i) = (if j = 0 then x else n + oo j) := h
    by_cases h1 : i = 0
    · by_cases h2 : j = 0
      · omega
      · rw [if_pos h1, if_neg h2] at h; omega
    · by_cases h2 : j = 0
      · rw [if_neg h1, if_pos h2] at h; omega
      · rw [if_neg h1, if_neg h2] at h
        exact oo_inj i hi j hj h1 h2 (by omega)
  · intro i p hi hp h
    have h : (if i = 0 then x else n + oo i) = n + fo p := h
    by_cases h1 : i = 0
    · rw [if_pos h1] at h; omega
    · rw [if_neg h1] at h
      exact of_ne i hi p hp h1 (by omega)
  · intro i hi j hj
    show n + lo j ≠ (if i = 0 then x else n + oo i) ∧ n + lo j + 1 ≠ (if i = 0 then x else n + oo i)
    by_cases h1 : i = 0
    · rw [if_pos h1]; exact ⟨by omega, by omega⟩
    · rw [if_neg h1]
      have := ol_ne i hi j hj h1
      exact ⟨by omega, by omega⟩
  · intro p hp j hj
    have := fl_ne p hp j hj
    show n + lo j ≠ n + fo p ∧ n + lo j + 1 ≠ n + fo p
    exact ⟨by omega, by omega⟩
/-- behind the desk's cells all is free -/
theorem K0_kN {x n q : Nat} {f : Nat → Option Nat} (h1 : q ≠ x) (h2 : n + 115 ≤ q) : kN (K0 x n f) q := by
  refine ⟨fun i hi => ?_, fun p hp => ?_, fun i hi => ?_⟩
  · have := lo_lt i hi
    show n + lo i ≠ q ∧ n + lo i + 1 ≠ q
    exact ⟨by omega, by omega⟩
  · have := fo_lt p hp
    show n + fo p ≠ q
    omega
  · have := oo_lt i hi
    show (if i = 0 then x else n + oo i) ≠ q
    split <;> omega
def v0 (i : Nat) : Nat := if i < 34 then i % 2 else 0
def m0 : g_M := (fun _ => (0, 1, 0), (0, fun _ => 0), (0, fun _ => 0))
/-- p places are made -/
def PB (σb σ : g_S) (n p : Nat) : Prop := σ.2 = n + 35 + 5 * p ∧ (∀ q, q < n + 35 → q ≠ n → σ.1 q = σb.1 q) ∧ (∃ f : Nat → Option Nat, σ.1 n = some (.inl (4, 16, .inr (.inr (.inr (.inr f))))) ∧ ∀ k, k < p → f k = some (n + 35 + 5 * k)) ∧ ∀ k, k < p → aF σ (n + 35 + 5 * k) (n + 36 + 5 * k) 67
theorem i_place {σb σ : g_S} {x n p : Nat} {fs : List Value} (hx : x < n) (hb : σb.1 x = some (.inr (7, fs))) (hb0 : fs[0]? = some (.ref n)) (hp : p < 16) (h : PB σb σ n p) : ∃ σ', PB σb σ' n (p + 1) ∧ ∀ (β : Type) (Kf : g_S → Option β), ((g_fr σ 7 x 0).bind fun v16 => g_let σ.2 fun a18 => g_let (g_mk σ (.inr (2, [.null, .null, .int 0]))) fun σ17 => (fX2_init σ17 a18 67).bind fun r19 => (g_sq r19 4 2 v16 (nI p) a18).bind fun σ20 => Kf σ20) = Kf σ' := by
  obtain ⟨h1, h2, ⟨f, h3, h4⟩, h5⟩ := h
  have hxx : σ.1 x = some (.inr (7, fs)) := by rw [h2 _ (by omega) (by omega)]; exact hb
  obtain ⟨σ1, e1, a1, a2, a3⟩ := i_frac (σ := g_mk σ (.inr (2, [.null, .null, .int 0]))) (n := σ.2 + 1) (x0 := σ.2) (cap := 67) rfl (by omega) (g_mk_n _ _) (by decide) (by decide)
  have kp : ∀ q, q < σ.2 → σ1.1 q = σ.1 q := fun q hq => by rw [a2 q (by omega) (by omega), g_mk_q _ _ (by omega)]
  have hn : σ1.1 n = some (.inl (4, 16, .inr (.inr (.inr (.inr f))))) := by rw [kp n (by omega)]; exact h3
  have e2 : g_sq σ1 4 2 n (nI p) σ.2 = some (g_up σ1 n (.inl (4, 16, .inr (.inr (.inr (.inr (va_up f p (some σ.2)))))))) := by
    unfold g_sq
    rw [g_o_of a3.1, Option.bind_some, g_aq_of hn]
    show (if g_in (nI p) 16 then some (g_up σ1 n (.inl (4, 16, .inr (.inr (.inr (.inr (va_up f (nI p).toNatClampNeg (some σ.2)))))))) else none) = _
    rw [if_pos (g_in_of hp (by decide)), nI_clamp (by omega)]
  refine ⟨g_up σ1 n (.inl (4, 16, .inr (.inr (.inr (.inr (va_up f p (some σ.2))))))), ⟨by show σ1.2 = _; omega, fun q q1 q2 => by rw [g_up_n _ _ q2, kp q (by omega), h2 q q1 q2], ⟨_, g_up_s _ _ _, fun k hk => ?_⟩, fun k hk => ?_⟩, fun β Kf => ?_⟩
  · by_cases hkp : k = p
    · rw [hkp, va_up_self, h1]
    · rw [va_up_ne _ _ hkp, h4 k (by omega)]
  · by_cases hkp : k = p
    · rw [hkp, ← h1, show n + 36 + 5 * p = σ.2 + 1 by omega]
      exact a3.kp (fun q hq => g_up_n _ _ (by omega))
    · exact (h5 k (by omega)).kp (fun q hq => by rw [g_up_n _ _ (by omega), kp q (by omega)])
  · rw [g_fr_of hxx hb0]
    simp only [Option.bind_some, g_let]
    rw [show (67 : Int32) = nI 67 from rfl, e1]
    simp only [Option.bind_some]
    rw [e2]
    rfl
