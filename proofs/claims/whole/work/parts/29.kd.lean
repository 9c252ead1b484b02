/-! KNUTH'S DIVISION, a digit: b the base, N the two highest digits together, u0 the third one, v1, v0 the divisor's two highest; the rest below P. -/
theorem kd_id {d v1 l N b v0 : Nat} (e : d * v1 + l = N) : N * b + d * v0 = d * (v1 * b + v0) + l * b := by
  rw [← e, Nat.add_mul, Nat.mul_add, Nat.mul_assoc]
  omega
theorem kd_lo {d v1 l N b v0 u0 P V V' R R' : Nat} (hR : R = (N * b + u0) * P + R') (hR' : R' < P) (hV : V = (v1 * b + v0) * P + V') (e : d * v1 + l = N) (h : l * b + u0 < d * v0) : R < d * V := by
  have h1 := kd_id (b := b) (v0 := v0) e
  have h2 : N * b + u0 + 1 ≤ d * (v1 * b + v0) := by omega
  have h3 := Nat.mul_le_mul_right P h2
  rw [Nat.add_mul, Nat.one_mul] at h3
  rw [hV, Nat.mul_add, ← Nat.mul_assoc]
  omega
theorem kd_hi {d v1 l N b v0 u0 P V V' R R' : Nat} (hR : R = (N * b + u0) * P + R') (hV : V = (v1 * b + v0) * P + V') (hV' : V' < P) (e : d * v1 + l = N) (h : d * v0 ≤ l * b + u0) (hd : d ≤ b) (hb : 0 < b) (hv : 1 ≤ v1) : d * V < R + V := by
  have h1 := kd_id (b := b) (v0 := v0) e
  have h2 : d * (v1 * b + v0) ≤ N * b + u0 := by omega
  have h3 := Nat.mul_le_mul_right P h2
  have h4 : d * V' ≤ b * V' := Nat.mul_le_mul_right _ hd
  have h5 : b * (V' + 1) ≤ b * P := Nat.mul_le_mul_left _ hV'
  have h6 : (1 * b) * P ≤ (v1 * b + v0) * P := Nat.mul_le_mul_right _ (Nat.le_trans (Nat.mul_le_mul_right _ hv) (Nat.le_add_right _ _))
  rw [Nat.mul_add, Nat.mul_one] at h5
  rw [Nat.one_mul] at h6
  have h7 : d * V = d * (v1 * b + v0) * P + d * V' := by rw [hV, Nat.mul_add, ← Nat.mul_assoc]
  omega
theorem kd_N {v1 N b v0 u0 P V V' R R' : Nat} (hR : R = (N * b + u0) * P + R') (hV : V = (v1 * b + v0) * P + V') (hV' : V' < P) (hv0 : v0 < b) (hlt : R < b * V) : N < (v1 + 1) * b := by
  have h1 : (v1 * b + v0 + 1) * P ≤ ((v1 + 1) * b) * P := Nat.mul_le_mul_right _ (by rw [Nat.add_mul, Nat.one_mul]; omega)
  rw [Nat.add_mul (v1 * b + v0), Nat.one_mul] at h1
  have h2 : b * V ≤ b * ((v1 + 1) * b * P) := Nat.mul_le_mul_left _ (by omega)
  have h3 : N * b * P ≤ (N * b + u0) * P := Nat.mul_le_mul_right _ (Nat.le_add_right _ _)
  have h4 : (b * P) * N < (b * P) * ((v1 + 1) * b) := by
    have e1 : (b * P) * N = N * b * P := by ac_rfl
    have e2 : (b * P) * ((v1 + 1) * b) = b * ((v1 + 1) * b * P) := by ac_rfl
    omega
  exact Nat.lt_of_mul_lt_mul_left h4
theorem kd_q {q0 v1 N b : Nat} (h1 : q0 * v1 ≤ N) (h2 : N < (v1 + 1) * b) (hb : b ≤ 2 * v1) : q0 ≤ b + 1 := by
  rcases Nat.lt_or_ge (b + 1) q0 with q | q
  · have h3 : (b + 2) * v1 ≤ q0 * v1 := Nat.mul_le_mul_right _ q
    rw [Nat.add_mul] at h3
    rw [Nat.add_mul, Nat.one_mul, Nat.mul_comm v1 b] at h2
    omega
  · exact q
theorem kd_two {q0 v1 N b v0 u0 P V V' R R' : Nat} (hR : R = (N * b + u0) * P + R') (hV : V = (v1 * b + v0) * P + V') (hV' : V' < P) (hv0 : v0 < b) (h1 : q0 * v1 ≤ N) (hq : q0 ≤ b + 1) (hb : b ≤ 2 * v1) (hv : 2 ≤ v1) : q0 * V < R + 3 * V := by
  have a1 : (v1 * b + v0 + 1) * P ≤ (v1 * b + b) * P := Nat.mul_le_mul_right _ (by omega)
  rw [Nat.add_mul (v1 * b + v0), Nat.one_mul] at a1
  have a2 : q0 * V ≤ q0 * ((v1 * b + b) * P) := Nat.mul_le_mul_left _ (by omega)
  have a3 : q0 * ((v1 * b + b) * P) = q0 * v1 * (b * P) + q0 * (b * P) := by
    rw [Nat.add_mul, Nat.mul_add]
    have : q0 * (v1 * b * P) = q0 * v1 * (b * P) := by ac_rfl
    rw [this]
  have a4 : q0 * v1 * (b * P) ≤ N * (b * P) := Nat.mul_le_mul_right _ h1
  have a5 : N * (b * P) ≤ (N * b + u0) * P := by
    rw [← Nat.mul_assoc]
    exact Nat.mul_le_mul_right _ (Nat.le_add_right _ _)
  have a6 : q0 * (b * P) ≤ (b + 1) * (b * P) := Nat.mul_le_mul_right _ hq
  have a7 : b * (b * P) ≤ 2 * v1 * (b * P) := Nat.mul_le_mul_right _ hb
  have a8 : v1 * (b * P) ≤ V := by
    rw [hV, ← Nat.mul_assoc]
    exact Nat.le_trans (Nat.mul_le_mul_right _ (Nat.le_add_right _ v0)) (Nat.le_add_right _ _)
  have a9 : 2 * (b * P) ≤ v1 * (b * P) := Nat.mul_le_mul_right _ hv
  have hbP : 0 < b * P := Nat.mul_pos (by omega) (by omega)
  rw [Nat.add_mul, Nat.one_mul] at a6
  rw [Nat.mul_assoc] at a7
  omega
theorem kd_init {q0 v1 N b v0 u0 P V V' R R' : Nat} (hR : R = (N * b + u0) * P + R') (hR' : R' < P) (hV : V = (v1 * b + v0) * P + V') (hu : u0 < b) (h1 : N < (q0 + 1) * v1) : R < (q0 + 1) * V := by
  have a1 : (N * b + u0 + 1) * P ≤ ((N + 1) * b) * P := Nat.mul_le_mul_right _ (by rw [Nat.add_mul, Nat.one_mul]; omega)
  rw [Nat.add_mul (N * b + u0), Nat.one_mul] at a1
  have a2 : ((N + 1) * b) * P ≤ ((q0 + 1) * v1 * b) * P := Nat.mul_le_mul_right _ (Nat.mul_le_mul_right _ h1)
  have a3 : (q0 + 1) * V = (q0 + 1) * v1 * b * P + (q0 + 1) * (v0 * P + V') := by
    rw [hV, Nat.add_mul (v1 * b), Nat.add_assoc, Nat.mul_add (q0 + 1) (v1 * b * P)]
    have : (q0 + 1) * (v1 * b * P) = (q0 + 1) * v1 * b * P := by ac_rfl
    rw [this]
  omega
/-- what a guessed digit is: the quotient's, or one more -/
theorem kd_end {d V R : Nat} (h1 : R < (d + 1) * V) (h2 : d * V < R + V) : (d * V ≤ R ∧ R - d * V < V) ∨ (R < d * V ∧ 1 ≤ d ∧ (d - 1) * V ≤ R ∧ R - (d - 1) * V < V) := by
  rw [Nat.add_mul, Nat.one_mul] at h1
  rcases Nat.lt_or_ge R (d * V) with q | q
  · right
    have hd : 1 ≤ d := by
      rcases Nat.eq_zero_or_pos d with z | z
      · rw [z] at q; simp at q
      · exact z
    obtain ⟨e, rfl⟩ : ∃ e, d = e + 1 := ⟨d - 1, by omega⟩
    rw [Nat.add_mul, Nat.one_mul] at h1 h2 q
    rw [Nat.add_sub_cancel]
    exact ⟨by rw [Nat.add_mul, Nat.one_mul]; exact q, hd, by omega, by omega⟩
  · left
    exact ⟨q, by omega⟩
